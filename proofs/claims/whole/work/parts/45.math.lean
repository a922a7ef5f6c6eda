section M45
theorem in_099 (x : Int32) : f_X10_in x.toInt64 0 99 = some (if 0 ≤ x ∧ x ≤ 99 then 1 else 0) := in_32 x 0 99
theorem noteM (row : Nat → Int32) {k m p : Nat} (h161 : row 161 = nI k) (hk : k ≤ 12) (x1 x2 : Int32) : (gd (ib 161 558) ((if (row (Int32.toNatClampNeg 161)) = 12 then (some ((-5 : Int32), row)) else gd (ib 161 558) (gd (ib (162 + (2 * (row (Int32.toNatClampNeg 161)))) 558) (some (0, upd row (162 + 2 * k) x1)))))) = (if k = 12 then some (-5, row) else some (0, upd row (162 + 2 * k) x1)) := by
  rw [gd_t ib161, show Int32.toNatClampNeg 161 = 161 from rfl, h161]
  by_cases h : k = 12
  · subst h; rfl
  · rw [if_neg (fun e => h ((nI_eq (by omega) (by decide)).mp (show nI k = nI 12 from e))), if_neg h, gd_t ib161, show (162 : Int32) + 2 * nI k = nI (162 + 2 * k) from (by rw [show (2 : Int32) = nI 2 from rfl, nI_mul]; exact nI_add 162 (2 * k)), gd_t (ib_nI (by omega) (by decide))]
theorem addNote_nI (hs ms : Nat → Int32) {k : Nat} (hk : k < 12) (x1 x2 : Int32) : f_X1_addNote (nI k) hs ms x1 x2 = some (nI (k + 1), upd hs k x1, upd ms k x2) := by
  unfold f_X1_addNote
  rw [if_neg (nI_pos (by omega)), if_pos (show nI k < 12 from nI_lt (b := 12) hk (by decide)), gd_t (ib_nI hk (by decide)), gd_t (ib_nI hk (by decide)), st1, nI_clamp (by omega)]
theorem ob_note : Ob_note RR := by
  intro X XA XL Y YA x1 x2 h
  have h0 := h
  obtain ⟨ht, hc, hl, ⟨hd, ⟨N, hN, hc1, hc2, hc3⟩, ⟨k, hk, h5, h6, h7⟩⟩, hi1, hi2⟩ := h
  simp only [Nat.zero_add] at h6
  unfold f_X9_note f_X10_note
  rw [in_099]
  rcases pcase x1 with ⟨a, ha, rfl, hp, hq⟩ | ⟨hp, hq⟩
  · by_cases g1 : x2 < 0
    · simp only [hp, hq, bS, i10, i00, if_pos g1, if_neg (fun q : 0 ≤ x2 ∧ x2 ≤ 99 => absurd q.1 (Int32.not_le.mpr g1))]
      exact ⟨_, _, rfl, rfl, rfl, h0⟩
    · by_cases g2 : x2 ≤ 99
      · obtain ⟨mm, hm, rfl⟩ := rng (n := 99) (by decide) (Int32.not_lt.mp g1) g2
        have g3 : nI mm < 100 := nI_lt (b := 100) (by omega) (by decide)
        simp only [hp, hq, bS, i10, if_neg g1, if_pos g3, if_pos (show 0 ≤ nI mm ∧ nI mm ≤ 99 from ⟨Int32.not_lt.mp g1, g2⟩), gd_t ib161, show Int32.toNatClampNeg 161 = 161 from rfl, h6]
        by_cases hk12 : k = 12
        · have e1 : ¬ X 18 < 12 := by rw [h5, hk12]; decide
          have e2 : nI k = 12 := by rw [hk12]; rfl
          simp only [if_neg e1, if_pos e2]
          exact ⟨_, _, rfl, rfl, rfl, h0⟩
        · have e1 : X 18 < 12 := by rw [h5]; exact nI_lt (b := 12) (by omega) (by decide)
          have e2 : ¬ nI k = 12 := fun e => hk12 ((nI_eq (by omega) (by decide)).mp (show nI k = nI 12 from e))
          have e3 : (162 : Int32) + 2 * nI k = nI (162 + 2 * k) := by rw [show (2 : Int32) = nI 2 from rfl, nI_mul]; exact nI_add 162 (2 * k)
          have e4 : nI (162 + 2 * k) + 1 = nI (163 + 2 * k) := by rw [st1]; congr 1; omega
          have u1 : upd (YA 0) (162 + 2 * k) (nI a) 161 = nI k := (upd_ne _ _ (by omega)).trans h6
          simp only [if_pos e1, if_neg e2, h5, addNote_nI _ _ (show k < 12 by omega), bS, e3, gd_t (ib_nI (show 162 + 2 * k < 558 by omega) (by decide)), nI_clamp (show 162 + 2 * k < 2 ^ 31 by omega), u1, e4, gd_t (ib_nI (show 163 + 2 * k < 558 by omega) (by decide)), nI_clamp (show 163 + 2 * k < 2 ^ 31 by omega)]
          have u2 : upd (upd (YA 0) (162 + 2 * k) (nI a)) (163 + 2 * k) (nI mm) 161 = nI k := (upd_ne _ _ (by omega)).trans u1
          simp only [u2, st1]
          refine ⟨_, _, rfl, rfl, ?_, ht, ?_, hl, ?_, ?_, ?_⟩
          · exact (upd_same _ _ _).symm
          · refine RCan_row hc (fun i hi => ?_)
            show upd (upd (upd (YA 0) (162 + 2 * k) (nI a)) (163 + 2 * k) (nI mm)) 161 (nI (k + 1)) (0 + i) = _
            rw [upd_ne _ _ (by omega), upd_ne _ _ (by omega), upd_ne _ _ (by omega)]
          · show RBook (X 17) (nI (k + 1)) (XA 8) (XA 9) (XA 10) (XA 11) (XA 12) (upd (XA 13) k (nI a)) (upd (XA 14) k (nI mm)) (upd (upd (upd (YA 0) (162 + 2 * k) (nI a)) (163 + 2 * k) (nI mm)) 161 (nI (k + 1))) 0
            refine ⟨fun c d hc' hd' => ?_, ⟨N, hN, hc1, ?_, fun i hi => ?_⟩, k + 1, by omega, rfl, upd_same _ _ _, fun i hi => ?_⟩
            · rw [upd_ne _ _ (by omega), upd_ne _ _ (by omega), upd_ne _ _ (by omega), upd_ne _ _ (by omega), upd_ne _ _ (by omega), upd_ne _ _ (by omega)]
              exact hd c d hc' hd'
            · rw [upd_ne _ _ (by omega), upd_ne _ _ (by omega), upd_ne _ _ (by omega)]
              exact hc2
            · obtain ⟨g1, g2, g3, g4, g5⟩ := hc3 i hi
              refine ⟨?_, ?_, ?_, ?_, g5⟩
              all_goals rw [upd_ne _ _ (by omega), upd_ne _ _ (by omega), upd_ne _ _ (by omega)]
              · exact g1
              · exact g2
              · exact g3
              · exact g4
            · by_cases hik : i = k
              · subst hik
                refine ⟨?_, ?_, ⟨a, ha, upd_same _ _ _⟩, ⟨mm, by omega, upd_same _ _ _⟩⟩
                · rw [upd_same, upd_ne _ _ (by omega), upd_ne _ _ (by omega), Nat.zero_add, upd_same]
                · rw [upd_same, upd_ne _ _ (by omega), Nat.zero_add, upd_same]
              · obtain ⟨q1, q2, ⟨c1, q3, q4⟩, c2, q5, q6⟩ := h7 i (by omega)
                refine ⟨?_, ?_, ⟨c1, q3, (upd_ne _ _ hik).trans q4⟩, ⟨c2, q5, (upd_ne _ _ hik).trans q6⟩⟩
                · rw [upd_ne (XA 13) _ hik, upd_ne _ _ (by omega), upd_ne _ _ (by omega), upd_ne _ _ (by omega)]; exact q1
                · rw [upd_ne (XA 14) _ hik, upd_ne _ _ (by omega), upd_ne _ _ (by omega), upd_ne _ _ (by omega)]; exact q2
          · refine RImg_row hi1 (fun i hi => ?_)
            show upd (upd (upd (YA 0) (162 + 2 * k) (nI a)) (163 + 2 * k) (nI mm)) 161 (nI (k + 1)) (186 + i) = _
            rw [upd_ne _ _ (by omega), upd_ne _ _ (by omega), upd_ne _ _ (by omega)]
          · refine RImg_row hi2 (fun i hi => ?_)
            show upd (upd (upd (YA 0) (162 + 2 * k) (nI a)) (163 + 2 * k) (nI mm)) 161 (nI (k + 1)) (372 + i) = _
            rw [upd_ne _ _ (by omega), upd_ne _ _ (by omega), upd_ne _ _ (by omega)]
      · have g3 : ¬ x2 < 100 := by
          intro g3
          obtain ⟨j, hj, rfl⟩ := lit_lt (n := 100) g3 (Int32.not_lt.mp g1) (by decide)
          exact g2 (nI_le (b := 99) (by omega) (by decide))
        simp only [hp, hq, bS, i10, i00, if_neg g1, if_neg g3, if_neg (fun q : 0 ≤ x2 ∧ x2 ≤ 99 => g2 q.2)]
        exact ⟨_, _, rfl, rfl, rfl, h0⟩
  · simp only [hp, hq, bS, i00]
    exact ⟨_, _, rfl, rfl, rfl, h0⟩
/-! count -/
theorem rocks_L4C (gr : Nat → Int32) {a b : Nat} (ha : a ≤ 6) (hb : b ≤ 6) : ∀ (d k n : Nat), k + d = a * b → d < n → f_X2_rocks_L4 (nI a) (nI b) gr n (sm (fun i => if gr i = -1 then 0 else 1) k) (nI k) = some (sm (fun i => if gr i = -1 then 0 else 1) (a * b)) := by
  have h36 := mul_le36 ha hb
  have ec : f_X2_cells (nI a) (nI b) = some (nI (a * b)) := by unfold f_X2_cells; rw [nI_mul]
  intro d
  induction d with
  | zero =>
    intro k n hk hn
    obtain ⟨n, rfl⟩ : ∃ m, n = m + 1 := ⟨n - 1, by omega⟩
    have : k = a * b := by omega
    subst this
    rw [f_X2_rocks_L4, ec, bS, if_pos (nI_le (by omega) (by omega))]
  | succ d ih =>
    intro k n hk hn
    obtain ⟨n, rfl⟩ : ∃ m, n = m + 1 := ⟨n - 1, by omega⟩
    have := ih (k + 1) n (by omega) (by omega)
    rw [sm] at this
    rw [f_X2_rocks_L4, ec, bS, if_neg (nI_ge (by omega) (by omega)), isRockC gr rfl rfl ha hb (by omega), bS]
    unfold f_X2_rocks_J23
    rw [st1]
    by_cases h : gr k = -1
    · rw [if_pos h, i00]; rw [if_pos h, add_0'] at this; exact this
    · rw [if_neg h, i10]; rw [if_neg h] at this; exact this
theorem somewhere_L4C (wi : Nat → Int32) : ∀ (d k n : Nat), k + d = 6 → d < n → ∀ acc, f_X2_personsSomewhere_L4 wi n acc (nI k) = f_X2_personsSomewhere_L4 wi (d + 1) acc (nI k) := by
  intro d
  induction d with
  | zero =>
    intro k n hk hn acc
    obtain ⟨n, rfl⟩ : ∃ m, n = m + 1 := ⟨n - 1, by omega⟩
    have : k = 6 := by omega
    subst this
    rfl
  | succ d ih =>
    intro k n hk hn acc
    obtain ⟨n, rfl⟩ : ∃ m, n = m + 1 := ⟨n - 1, by omega⟩
    rw [f_X2_personsSomewhere_L4, f_X2_personsSomewhere_L4]
    unfold f_X2_personsSomewhere_J26
    rw [st1, ih (k + 1) n (by omega) (by omega), ih (k + 1) n (by omega) (by omega)]
end M45
