section M53
/-! the class follows a sound -/
theorem cellAt_hv' : ∀ a, a < 7 → ∀ b, b < 7 → ∀ c, c < a * b → ∀ k, k < 4 → f_X2_cellAt (nI a) (nI b) (nI (c % a) + colF (2 * k + 1)) (nI (c / a)) = some (oI (ah a b c (hW (2 * k + 1)))) ∧ f_X2_cellAt (nI a) (nI b) (nI (c % a)) (nI (c / a) + rowF (2 * k + 1)) = some (oI (ah a b c (vW (2 * k + 1)))) := by decide +kernel
theorem cellAt_hv (a : Nat) (ha : a < 7) (b : Nat) (hb : b < 7) (c : Nat) (hc : c < a * b) (w : Nat) (hw : w < 8) (ho : w % 2 = 1) : f_X2_cellAt (nI a) (nI b) (nI (c % a) + colF w) (nI (c / a)) = some (oI (ah a b c (hW w))) ∧ f_X2_cellAt (nI a) (nI b) (nI (c % a)) (nI (c / a) + rowF w) = some (oI (ah a b c (vW w))) := by
  have h := cellAt_hv' a ha b hb c hc (w / 2) (by omega)
  rw [show 2 * (w / 2) + 1 = w by omega] at h
  exact h
theorem oddw : ∀ w, w < 8 → ((nI w &&& 1 = 0) ↔ w % 2 = 0) ∧ nI w &&& 7 = nI w ∧ (nI w + 4) &&& 7 = nI ((w + 4) % 8) ∧ (w % 2 = 1 → (12 - nI w) &&& 7 = nI ((12 - w) % 8) ∧ (8 - nI w) &&& 7 = nI ((8 - w) % 8)) := by decide +kernel
theorem isRock_o {a b : Nat} (gr : Nat → Int32) (ha : a ≤ 6) (hb : b ≤ 6) {c w : Nat} (hc : c < a * b) (hw : w < 8) : f_X2_isRock (nI a) (nI b) gr (oI (ah a b c w)) = some (rk a b gr c w) := by
  unfold rk
  split
  · rename_i h
    rw [h]
    unfold f_X2_isRock f_X2_has
    rfl
  · rename_i c' h
    rw [h]
    exact isRockC gr rfl rfl ha hb (ah_some ha hb hc hw h).1
theorem columnOf_nI {a c : Nat} (ha1 : 1 ≤ a) (ha : a ≤ 6) (hc : c < 2 ^ 31) : f_X2_columnOf (nI a) (nI c) = some (nI (c % a)) := by
  unfold f_X2_columnOf
  rw [if_pos (show (1 : Int32) ≤ nI a from nI_le (a := 1) ha1 (by omega)), gd_t, nI_rem hc (by omega)]
  exact fun h => absurd ((nI_eq (by omega) (by decide)).mp (show nI a = nI 0 from h)) (by omega)
theorem rowOf_nI {a c : Nat} (ha1 : 1 ≤ a) (ha : a ≤ 6) (hc : c < 2 ^ 31) : f_X2_rowOf (nI a) (nI c) = some (nI (c / a)) := by
  unfold f_X2_rowOf
  rw [if_pos (show (1 : Int32) ≤ nI a from nI_le (a := 1) ha1 (by omega)), gd_t, nI_div hc (by omega)]
  exact fun h => absurd ((nI_eq (by omega) (by decide)).mp (show nI a = nI 0 from h)) (by omega)
theorem wayBackC {a b : Nat} (gr : Nat → Int32) (ha1 : 1 ≤ a) (ha : a ≤ 6) (hb : b ≤ 6) {c w : Nat} (hc : c < a * b) (hw : w < 8) : f_X2_wayBack (nI a) (nI b) gr (nI c) (nI w) = some (nI (wb w (rk a b gr c (hW w)) (rk a b gr c (vW w)))) := by
  have h36 := mul_le36 ha hb
  obtain ⟨o1, o2, o3, o4⟩ := oddw w hw
  unfold f_X2_wayBack wb
  by_cases h : w % 2 = 0
  · rw [if_pos (o1.mpr h), if_pos (Or.inl h), o3]
  · obtain ⟨e1, e2⟩ := cellAt_hv a (by omega) b (by omega) c hc w hw (by omega)
    obtain ⟨o5, o6⟩ := o4 (by omega)
    rw [if_neg (fun q => h (o1.mp q))]
    simp only [columnOf_nI ha1 ha (show c < 2 ^ 31 by omega), rowOf_nI ha1 ha (show c < 2 ^ 31 by omega), bS, o2, gd_t (ib_nI hw (by decide)), nI_clamp (show w < 2 ^ 31 by omega), e1, e2, isRock_o gr ha hb hc (hvW w).1, isRock_o gr ha hb hc (hvW w).2, o3, o5, o6]
    by_cases hpq : rk a b gr c (hW w) = rk a b gr c (vW w)
    · rw [if_pos hpq, if_pos (Or.inr hpq)]
    · have hn : ¬ (w % 2 = 0 ∨ rk a b gr c (hW w) = rk a b gr c (vW w)) := fun q => q.elim h hpq
      simp only [if_neg hpq, if_neg hn]
      by_cases hp : rk a b gr c (hW w) = 0
      · rw [if_pos hp, if_pos hp]
      · rw [if_neg hp, if_neg hp]
def okG (gr : Nat → Int32) : Prop := ∀ i, i < 36 → gr i = -1 ∨ ∃ c : Nat, c ≤ 99 ∧ gr i = nI c
theorem sN_nI {c : Nat} (h : c < 2 ^ 31) : sN (nI c) = c := nI_clamp h
theorem loudBackC {a b : Nat} {gr : Nat → Int32} (hG : okG gr) (ha : a ≤ 6) (hb : b ≤ 6) {c l : Nat} (hc : c < a * b) (hr : ¬ gr c = -1) (hl : l ≤ 99) (hi : Int32) : f_X2_loudThrownBack (nI a) (nI b) gr (nI c) (nI l) hi = some (nI (lbk hi (gr c) l)) := by
  have h36 := mul_le36 ha hb
  obtain ⟨s, hs, es⟩ := (hG c (by omega)).resolve_left hr
  have e0 : (if 0 < gr c then gr c else 0) = nI s := by
    rw [es]
    by_cases z : s = 0
    · subst z; rfl
    · rw [if_pos (show (0 : Int32) < nI s from nI_lt (a := 0) (by omega) (by omega))]
  have hm : ∀ t, t ≤ 100 → l * t / 100 ≤ l ∧ l * t ≤ 9900 := fun t ht => by
    have h1 : l * t ≤ l * 100 := Nat.mul_le_mul_left l ht
    omega
  unfold f_X2_loudThrownBack f_X2_loudThrownBack_J24 lbk
  rw [softOfC gr rfl rfl ha hb hc, bS, bS, e0, es, sN_nI (by omega)]
  have e2 : (2 : Int32) * nI s = nI (2 * s) := nI_mul 2 s
  rw [e2]
  have em : (if nI (2 * s) < 100 then nI (2 * s) else 100) = nI (min 100 (2 * s)) := by
    by_cases q : 2 * s < 100
    · rw [if_pos (show nI (2 * s) < 100 from nI_lt (b := 100) q (by decide)), Nat.min_eq_right (by omega)]
    · rw [if_neg (show ¬ nI (2 * s) < 100 from fun z => q ((nI_ltI (by omega) (by decide)).mp (show nI (2 * s) < nI 100 from z))), Nat.min_eq_left (by omega)]
      rfl
  rw [em]
  have key : ∀ t, t ≤ 100 → nI l - nI l * nI t / 100 = nI (l - l * t / 100) := fun t ht => by
    rw [nI_mul, show (100 : Int32) = nI 100 from rfl, nI_div (by have := hm t ht; omega) (by decide), nI_sub' (hm t ht).1]
  by_cases h : hi = 0
  · rw [if_pos h, if_pos h, key s (by omega)]
  · rw [if_neg h, if_neg h, key _ (Nat.min_le_left _ _)]
def enc : Option (Nat × Nat × Nat) → Int32
  | none => 0
  | some v => nI (8192 * v.2.2 + 64 * v.2.1 + (v.1 + 1))
theorem or_add {m k n : Nat} (hk : k < 2 ^ n) (h31 : m * 2 ^ n + k < 2 ^ 31) (hn : n < 31) : (nI m <<< (nI n &&& 31)) ||| nI k = nI (m * 2 ^ n + k) := by
  have en : nI n &&& 31 = nI n := by
    have : ∀ n, n < 31 → nI n &&& 31 = nI n := by decide
    exact this n hn
  have hm : m * 2 ^ n < 2 ^ 31 := by omega
  have es : nI m <<< (nI n) = nI (m * 2 ^ n) := by
    apply Int32.toBitVec_inj.mp
    apply BitVec.eq_of_toNat_eq
    rw [Int32.toBitVec_shiftLeft]
    have e1 : ∀ k, (nI k).toBitVec = BitVec.ofNat 32 k := fun k => rfl
    rw [e1, e1, e1]
    have e2 : (BitVec.smod (BitVec.ofNat 32 n) 32) = BitVec.ofNat 32 n := by
      have : ∀ n, n < 31 → (BitVec.smod (BitVec.ofNat 32 n) 32) = BitVec.ofNat 32 n := by decide
      exact this n hn
    rw [e2, BitVec.shiftLeft_eq', BitVec.toNat_shiftLeft, BitVec.toNat_ofNat, BitVec.toNat_ofNat, BitVec.toNat_ofNat, Nat.shiftLeft_eq, Nat.mod_eq_of_lt (show n < 2 ^ 32 by omega)]
    have : m ≤ m * 2 ^ n := Nat.le_mul_of_pos_right m (Nat.two_pow_pos n)
    rw [Nat.mod_eq_of_lt (show m < 2 ^ 32 by omega)]
  rw [en, es]
  apply Int32.toBitVec_inj.mp
  apply BitVec.eq_of_toNat_eq
  rw [Int32.toBitVec_or]
  have e1 : ∀ k, (nI k).toBitVec = BitVec.ofNat 32 k := fun k => rfl
  rw [e1, e1, e1, BitVec.toNat_or, BitVec.toNat_ofNat, BitVec.toNat_ofNat, BitVec.toNat_ofNat, Nat.mod_eq_of_lt (show m * 2 ^ n < 2 ^ 32 by omega), Nat.mod_eq_of_lt (show k < 2 ^ 32 by omega), Nat.mod_eq_of_lt (show m * 2 ^ n + k < 2 ^ 32 by omega), ← Nat.shiftLeft_eq, Nat.shiftLeft_add_eq_or_of_lt hk]
theorem soundFrom_nI {c l th : Nat} (hc : c < 36) (hl : l < 128) (hth : th ≤ 120) : f_X8_soundFrom (nI c) (nI l) (nI th) = some (enc (some (c, l, th))) := by
  unfold f_X8_soundFrom enc
  rw [show (7 : Int32) = nI 7 from rfl, show (6 : Int32) = nI 6 from rfl, or_add (by omega) (by omega) (by decide), st1, or_add (by omega) (by omega) (by decide)]
  congr 2
  show (th * 2 ^ 7 + l) * 2 ^ 6 + (c + 1) = 8192 * th + 64 * l + (c + 1)
  omega
end M53
