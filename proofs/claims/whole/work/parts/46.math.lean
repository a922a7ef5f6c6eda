section M46
/-! fall -/
theorem drive_L2M (c : Int32) : ∀ (d k n : Nat) (row : Nat → Int32), k + d = 6 → d < n → ∃ row', f_X10_drive_L2 c n (nI k) row = some row' ∧ (∀ p, k ≤ p → p < 6 → row' (38 + p) = if row (38 + p) = c then -1 else row (38 + p)) ∧ ∀ i, (∀ p, k ≤ p → p < 6 → i ≠ 38 + p) → row' i = row i := by
  intro d
  induction d with
  | zero =>
    intro k n row hk hn
    obtain ⟨n, rfl⟩ : ∃ m, n = m + 1 := ⟨n - 1, by omega⟩
    have : k = 6 := by omega
    subst this
    exact ⟨row, rfl, fun p h1 h2 => absurd h1 (by omega), fun i _ => rfl⟩
  | succ d ih =>
    intro k n row hk hn
    obtain ⟨n, rfl⟩ : ∃ m, n = m + 1 := ⟨n - 1, by omega⟩
    have key : f_X10_drive_L2 c (n + 1) (nI k) row = f_X10_drive_L2 c n (nI (k + 1)) (upd row (38 + k) (if row (38 + k) = c then -1 else row (38 + k))) := by
      rw [f_X10_drive_L2, if_neg (show ¬ (6 : Int32) ≤ nI k from nI_ge (b := 6) (by omega) (by decide)), show (38 : Int32) + nI k = nI (38 + k) from nI_add 38 k, gd_t (ib_nI (by omega) (by decide))]
      unfold f_X10_drive_J42
      simp only [st1, nI_clamp (show 38 + k < 2 ^ 31 by omega)]
      by_cases h : row (38 + k) = c
      · rw [if_pos h, if_pos h, gd_t (ib_nI (by omega) (by decide))]
      · rw [if_neg h, if_neg h, gd_t (ib_nI (by omega) (by decide)), gd_t (ib_nI (by omega) (by decide))]
    obtain ⟨row', h1, h2, h3⟩ := ih (k + 1) n (upd row (38 + k) (if row (38 + k) = c then -1 else row (38 + k))) (by omega) (by omega)
    refine ⟨row', by rw [key]; exact h1, fun p hp1 hp2 => ?_, fun i hi => ?_⟩
    · by_cases hpk : p = k
      · subst hpk
        rw [h3 (38 + p) (fun q h4 h5 => by omega), upd_same]
      · rw [h2 p (by omega) hp2, upd_ne _ _ (by omega)]
    · rw [h3 i (fun p h4 h5 => hi p (by omega) h5), upd_ne _ _ (hi k (by omega) (by omega))]
theorem putRock_L18C (gr : Nat → Int32) (c : Int32) : ∀ (d k n : Nat) (wi : Nat → Int32), k + d = 6 → d < n → ∃ wi', f_X2_putRock_L18 gr c n (nI k) wi = some (gr, wi') ∧ ∀ p, wi' p = if k ≤ p ∧ p < 6 ∧ wi p = c then -1 else wi p := by
  intro d
  induction d with
  | zero =>
    intro k n wi hk hn
    obtain ⟨n, rfl⟩ : ∃ m, n = m + 1 := ⟨n - 1, by omega⟩
    have : k = 6 := by omega
    subst this
    exact ⟨wi, rfl, fun p => by rw [if_neg (by omega)]⟩
  | succ d ih =>
    intro k n wi hk hn
    obtain ⟨n, rfl⟩ : ∃ m, n = m + 1 := ⟨n - 1, by omega⟩
    have key : f_X2_putRock_L18 gr c (n + 1) (nI k) wi = f_X2_putRock_L18 gr c n (nI (k + 1)) (if wi k = c then upd wi k (-1) else wi) := by
      rw [f_X2_putRock_L18, if_neg (show ¬ (6 : Int32) ≤ nI k from nI_ge (b := 6) (by omega) (by decide)), gd_t (ib_nI (by omega) (by decide))]
      unfold f_X2_putRock_J41
      simp only [st1, nI_clamp (show k < 2 ^ 31 by omega)]
      by_cases h : wi k = c
      · rw [if_pos h, if_pos h, gd_t (ib_nI (by omega) (by decide))]
      · rw [if_neg h, if_neg h]
    obtain ⟨wi', h1, h2⟩ := ih (k + 1) n (if wi k = c then upd wi k (-1) else wi) (by omega) (by omega)
    refine ⟨wi', by rw [key]; exact h1, fun p => ?_⟩
    rw [h2 p]
    by_cases hc : wi k = c
    · rw [if_pos hc]
      by_cases hpk : p = k
      · subst hpk
        rw [if_neg (by omega), if_pos ⟨by omega, by omega, hc⟩, upd_same]
      · rw [upd_ne _ _ hpk]
        by_cases hq : k + 1 ≤ p ∧ p < 6 ∧ wi p = c
        · rw [if_pos hq, if_pos ⟨by omega, hq.2⟩]
        · rw [if_neg hq, if_neg (fun q => hq ⟨by omega, q.2⟩)]
    · rw [if_neg hc]
      by_cases hq : k + 1 ≤ p ∧ p < 6 ∧ wi p = c
      · rw [if_pos hq, if_pos ⟨by omega, hq.2⟩]
      · rw [if_neg hq, if_neg (fun q => hq ⟨by
          rcases Nat.lt_or_ge k p with h | h
          · omega
          · exact absurd (by rw [show k = p by omega]; exact q.2.2) hc, q.2⟩)]
/-- a rock put on a cell -/
theorem putRockC {w h : Int32} {a b : Nat} (gr wi : Nat → Int32) (hw : w = nI a) (hh : h = nI b) (ha : a ≤ 6) (hb : b ≤ 6) {j : Nat} (hj : j < a * b) (x : Int32) : ∃ wi', f_X2_putRock w h gr wi (nI j) x = some (upd gr j x, wi') ∧ ∀ p, wi' p = if p < 6 ∧ wi p = nI j then -1 else wi p := by
  have := mul_le36 ha hb
  obtain ⟨wi', h1, h2⟩ := putRock_L18C (upd gr j x) (nI j) 6 0 FU wi rfl (by decide)
  refine ⟨wi', ?_, fun p => ?_⟩
  · unfold f_X2_putRock
    rw [has_nI hw hh ha hb hj, bS, i10, gd_t (ib_nI (by omega) (by decide)), nI_clamp (by omega)]
    exact h1
  · rw [h2 p]
    by_cases q : p < 6 ∧ wi p = nI j
    · rw [if_pos q, if_pos ⟨Nat.zero_le _, q⟩]
    · rw [if_neg q, if_neg (fun z => q z.2)]
theorem ob_fall : Ob_fall RR := by
  intro X XA XL Y YA x1 h
  have h0 := h
  obtain ⟨ht, ⟨a, b, ha1, ha, hb1, hb, hw, hh, hr0, hr1, hg, hp⟩, hl, hbk, hi1, hi2⟩ := h
  have h36 := mul_le36 ha hb
  simp only [Nat.zero_add] at hr0 hr1 hg hp
  unfold f_X9_fall f_X10_fall
  rcases ccase (gr := XA 2) (wi := XA 3) ha1 ha hb1 hb hw hh hr0 hr1 x1 with ⟨j, hj, rfl, hc, hd⟩ | ⟨hc, hd⟩
  · have e2 : (2 : Int32) + nI j = nI (2 + j) := nI_add 2 j
    by_cases f : XA 2 j = -1
    · -- floor becomes rock
      obtain ⟨wi', hw1, hw2⟩ := putRockC (XA 2) (XA 3) hw hh ha hb hj 0
      obtain ⟨row', hr', hr2, hr3⟩ := drive_L2M (nI j) 6 0 FU (upd (YA 0) (2 + j) 0) rfl (by decide)
      have ef : f_X2_flip (X 5) (X 6) (XA 2) (XA 3) (nI j) = some (upd (XA 2) j 0, wi') := by
        unfold f_X2_flip
        rw [isRockC _ hw hh ha hb hj, if_pos f, bS, i00, hw1, bS]
      have eg : f_X10_drive (upd (YA 0) (2 + j) 0) (nI j) = some row' := hr'
      have hne : ¬ upd (XA 2) j 0 j = -1 := by rw [upd_same]; decide
      unfold f_X10_fall_J33 f_X10_fall_J43
      simp only [hc, hd, bS, i10, ef, isRockC (upd (XA 2) j 0) hw hh ha hb hj, if_neg hne, isFloorM _ (show j < 36 by omega), (hg j (by omega)).1, if_pos f, e2, gd_t (ib_nI (show 2 + j < 558 by omega) (by decide)), nI_clamp (show 2 + j < 2 ^ 31 by omega), eg]
      have far : ∀ i, (i < 38 ∧ i ≠ 2 + j) ∨ 44 ≤ i → row' i = YA 0 i := fun i hi => by rw [hr3 i (fun p _ h6 => by omega), upd_ne _ _ (by omega)]
      refine ⟨_, _, rfl, rfl, rfl, ht, ?_, hl, ?_, ?_, ?_⟩
      · refine ⟨a, b, ha1, ha, hb1, hb, hw, hh, (far 0 (by omega)).trans hr0, (far 1 (by omega)).trans hr1, fun i hi => ?_, fun p hp6 => ?_⟩
        · show row' (0 + (2 + i)) = upd (XA 2) j 0 i ∧ (upd (XA 2) j 0 i = -1 ∨ ∃ c : Nat, c ≤ 99 ∧ upd (XA 2) j 0 i = nI c)
          rw [Nat.zero_add]
          by_cases hij : i = j
          · subst hij
            rw [upd_same]
            exact ⟨(hr3 _ (fun p _ h6 => by omega)).trans (upd_same _ _ _), Or.inr ⟨0, by decide, rfl⟩⟩
          · rw [upd_ne _ _ hij]
            exact ⟨(far _ (by omega)).trans (hg i hi).1, (hg i hi).2⟩
        · show row' (0 + (38 + p)) = wi' p ∧ (wi' p = -1 ∨ ∃ c, c < a * b ∧ wi' p = nI c ∧ upd (XA 2) j 0 c = -1)
          rw [Nat.zero_add, hr2 p (Nat.zero_le _) hp6, upd_ne _ _ (by omega), (hp p hp6).1, hw2 p]
          by_cases q : XA 3 p = nI j
          · rw [if_pos q, if_pos ⟨hp6, q⟩]
            exact ⟨rfl, Or.inl rfl⟩
          · rw [if_neg q, if_neg (fun z => q z.2)]
            refine ⟨rfl, ?_⟩
            rcases (hp p hp6).2 with z | ⟨c, z1, z2, z3⟩
            · exact Or.inl z
            · exact Or.inr ⟨c, z1, z2, (upd_ne _ _ (fun e => q (by rw [z2, e]))).trans z3⟩
      · exact RBook_row hbk (fun i h1 h2 => far _ (by omega))
      · exact RImg_row hi1 (fun i hi => far _ (by omega))
      · exact RImg_row hi2 (fun i hi => far _ (by omega))
    · have ef : f_X2_flip (X 5) (X 6) (XA 2) (XA 3) (nI j) = some (upd (XA 2) j (-1), XA 3) := by
        unfold f_X2_flip f_X2_putFloor
        rw [isRockC _ hw hh ha hb hj, if_neg f, bS, i10, has_nI hw hh ha hb hj, bS, i10, gd_t (ib_nI (by omega) (by decide)), nI_clamp (by omega), bS]
      have hne : upd (XA 2) j (-1) j = -1 := upd_same _ _ _
      unfold f_X10_fall_J33 f_X10_fall_J43
      simp only [hc, hd, bS, i10, i00, ef, isRockC (upd (XA 2) j (-1)) hw hh ha hb hj, if_pos hne, isFloorM _ (show j < 36 by omega), (hg j (by omega)).1, if_neg f, e2, gd_t (ib_nI (show 2 + j < 558 by omega) (by decide)), nI_clamp (show 2 + j < 2 ^ 31 by omega)]
      refine ⟨_, _, rfl, rfl, rfl, ht, ?_, hl, ?_, ?_, ?_⟩
      · refine ⟨a, b, ha1, ha, hb1, hb, hw, hh, (upd_ne _ _ (by omega : 0 ≠ 2 + j)).trans hr0, (upd_ne _ _ (by omega : 1 ≠ 2 + j)).trans hr1, fun i hi => ?_, fun p hp6 => ?_⟩
        · show upd (YA 0) (2 + j) (-1) (0 + (2 + i)) = upd (XA 2) j (-1) i ∧ (upd (XA 2) j (-1) i = -1 ∨ ∃ c : Nat, c ≤ 99 ∧ upd (XA 2) j (-1) i = nI c)
          rw [Nat.zero_add]
          by_cases hij : i = j
          · subst hij
            rw [upd_same, upd_same]
            exact ⟨rfl, Or.inl rfl⟩
          · rw [upd_ne _ _ hij, upd_ne _ _ (by omega)]
            exact hg i hi
        · show upd (YA 0) (2 + j) (-1) (0 + (38 + p)) = XA 3 p ∧ (XA 3 p = -1 ∨ ∃ c, c < a * b ∧ XA 3 p = nI c ∧ upd (XA 2) j (-1) c = -1)
          rw [Nat.zero_add, upd_ne _ _ (by omega)]
          refine ⟨(hp p hp6).1, (hp p hp6).2.imp id ?_⟩
          rintro ⟨c, z1, z2, z3⟩
          refine ⟨c, z1, z2, ?_⟩
          by_cases hcj : c = j
          · subst hcj; exact upd_same _ _ _
          · exact (upd_ne _ _ hcj).trans z3
      · exact RBook_row hbk (fun i h1 h2 => upd_ne _ _ (by omega : 0 + i ≠ 2 + j))
      · exact RImg_row hi1 (fun i hi => upd_ne _ _ (by omega : 186 + i ≠ 2 + j))
      · exact RImg_row hi2 (fun i hi => upd_ne _ _ (by omega : 372 + i ≠ 2 + j))
  · simp only [hc, hd, bS, i00]
    exact ⟨_, _, rfl, rfl, rfl, h0⟩
end M46
