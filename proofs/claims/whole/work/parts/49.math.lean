section M49
theorem by255 (y : Int64) : ∃ c : Nat, c < 256 ∧ (y &&& 255).toInt32 = nI c := by
  have e : y &&& 255 = lN ((y.toBitVec &&& 255#64).toNat) := by
    apply Int64.toBitVec_inj.mp
    rw [Int64.toBitVec_and]
    show _ = BitVec.ofNat 64 _
    rw [BitVec.ofNat_toNat, BitVec.setWidth_eq]
    rfl
  refine ⟨(y.toBitVec &&& 255#64).toNat, ?_, ?_⟩
  · rw [BitVec.toNat_and]
    have := Nat.and_le_right (n := y.toBitVec.toNat) (m := (255#64).toNat)
    have h2 : (255#64).toNat = 255 := rfl
    omega
  · rw [e, lN_i]
theorem append_nI (xb : Nat → Int32) {len : Nat} (h : len < 200) (v : Int32) : f_X7_append (nI len) xb v = some (nI (len + 1), upd xb len v) := by
  unfold f_X7_append
  rw [if_neg (nI_pos (by omega)), if_pos (show nI len < 200 from nI_lt (b := 200) h (by decide)), gd_t (ib_nI h (by decide)), st1, nI_clamp (by omega)]
theorem write_L (x1 : Int64) {N : Nat} (hN : N ≤ 8) : ∀ (d k n1 n2 len : Nat) (xb yt : Nat → Int32), k + d = N → d < n1 → d < n2 → len + d ≤ 200 → (∀ i, i < len → xb i = yt i ∧ ∃ c : Nat, c < 256 ∧ xb i = nI c) → ∃ xb' yt' : Nat → Int32, f_X9_write_L35 x1 (nI N) n1 (nI k) (nI len) xb = some (nI (len + d), nI (len + d), xb') ∧ f_X10_write_L33 x1 (nI N) n2 (nI k) (nI len) yt = some (nI (len + d), nI (len + d), yt') ∧ ∀ i, i < len + d → xb' i = yt' i ∧ ∃ c : Nat, c < 256 ∧ xb' i = nI c := by
  intro d
  induction d with
  | zero =>
    intro k n1 n2 len xb yt hk h1 h2 hl hx
    obtain ⟨n1, rfl⟩ : ∃ m, n1 = m + 1 := ⟨n1 - 1, by omega⟩
    obtain ⟨n2, rfl⟩ : ∃ m, n2 = m + 1 := ⟨n2 - 1, by omega⟩
    refine ⟨xb, yt, ?_, ?_, hx⟩
    · rw [f_X9_write_L35, if_pos (nI_le (by omega) (by omega))]; rfl
    · rw [f_X10_write_L33, if_pos (nI_le (by omega) (by omega))]; rfl
  | succ d ih =>
    intro k n1 n2 len xb yt hk h1 h2 hl hx
    obtain ⟨n1, rfl⟩ : ∃ m, n1 = m + 1 := ⟨n1 - 1, by omega⟩
    obtain ⟨n2, rfl⟩ : ∃ m, n2 = m + 1 := ⟨n2 - 1, by omega⟩
    obtain ⟨c, hc1, hc2⟩ := by255 (x1 >>> (Int32.toInt64 (8 * nI k) &&& 63))
    obtain ⟨xb', yt', q1, q2, q3⟩ := ih (k + 1) n1 n2 (len + 1) (upd xb len (nI c)) (upd yt len (nI c)) (by omega) (by omega) (by omega) (by omega) (fun i hi => by
      by_cases h : i = len
      · subst h; rw [upd_same, upd_same]; exact ⟨rfl, c, hc1, rfl⟩
      · rw [upd_ne _ _ h, upd_ne _ _ h]; exact hx i (by omega))
    rw [show len + 1 + d = len + (d + 1) by omega] at q1 q2 q3
    refine ⟨xb', yt', ?_, ?_, q3⟩
    · rw [f_X9_write_L35, if_neg (nI_ge (by omega) (by omega)), hc2, append_nI _ (by omega), bS, st1]
      exact q1
    · rw [f_X10_write_L33, if_neg (nI_ge (by omega) (by omega)), gd_t (ib_nI (by omega) (by decide)), hc2, st1, st1, nI_clamp (by omega)]
      exact q2
theorem ob_write : Ob_write RR := by
  intro X XA XL Y YA x1 x2 h
  have h0 := h
  obtain ⟨⟨n, hn, h2, h3, h4⟩, hc, hl, hbk, hi1, hi2⟩ := h
  unfold f_X9_write f_X10_write
  rw [show f_X10_in x2.toInt64 1 8 = some (if 1 ≤ x2 ∧ x2 ≤ 8 then 1 else 0) from in_32 x2 1 8]
  by_cases g1 : x2 < 1
  · simp only [if_pos g1, if_neg (fun q : 1 ≤ x2 ∧ x2 ≤ 8 => absurd q.1 (Int32.not_le.mpr g1)), bS, i00]
    exact ⟨_, _, rfl, rfl, rfl, h0⟩
  · by_cases g2 : x2 ≤ 8
    · obtain ⟨N, hN, rfl⟩ := rng (n := 8) (by decide) (Int32.le_trans (by decide) (Int32.not_lt.mp g1)) g2
      simp only [if_neg g1, if_pos g2, if_pos (show 1 ≤ nI N ∧ nI N ≤ 8 from ⟨Int32.not_lt.mp g1, g2⟩), bS, i10, h2, h3, nI_add]
      by_cases g3 : nI (n + N) ≤ 200
      · have g4 : n + N ≤ 200 := (nI_leI (b := 200) (by omega) (by decide)).mp g3
        obtain ⟨xb', yt', q1, q2, q3⟩ := write_L x1 hN N 0 FU FU n (XA 0) (YA 2) (by omega) (by have : FU = 5000 := rfl; omega) (by have : FU = 5000 := rfl; omega) g4 h4
        have e1 : f_X9_write_L35 x1 (nI N) FU 0 (nI n) (XA 0) = _ := q1
        have e2 : f_X10_write_L33 x1 (nI N) FU 0 (nI n) (YA 2) = _ := q2
        simp only [if_pos g3, e1, e2]
        refine ⟨_, _, rfl, rfl, rfl, ⟨n + N, g4, rfl, rfl, q3⟩, hc, hl, hbk, hi1, hi2⟩
      · simp only [if_neg g3]
        refine ⟨_, _, rfl, rfl, rfl, ⟨n, hn, rfl, rfl, h4⟩, hc, hl, hbk, hi1, hi2⟩
    · simp only [if_neg g1, if_neg g2, if_neg (fun q : 1 ≤ x2 ∧ x2 ≤ 8 => g2 q.2), bS, i00]
      exact ⟨_, _, rfl, rfl, rfl, h0⟩
end M49
