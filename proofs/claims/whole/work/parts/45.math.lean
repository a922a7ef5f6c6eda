section M45
theorem in_099 (x : Int32) : f_X10_in x.toInt64 0 99 = some (if 0 ≤ x ∧ x ≤ 99 then 1 else 0) := in_32 x 0 99
theorem addNote_nI (hs ms : Nat → Int32) {k : Nat} (hk : k < 12) (x1 x2 : Int32) : f_X1_addNote (nI k) hs ms x1 x2 = some (nI (k + 1), upd hs k x1, upd ms k x2) := by
  unfold f_X1_addNote
  rw [if_neg (nI_pos (by omega)), if_pos (show nI k < 12 from nI_lt (b := 12) hk (by decide)), gd_t (ib_nI hk (by decide)), gd_t (ib_nI hk (by decide)), st1, nI_clamp (by omega)]
theorem ob_note : Ob_note RR := by
  intro X XA XL Y YA x1 x2 h
  have h0 := h
  obtain ⟨ht, hc, hl, ⟨hd, ⟨N, hN, hc1, hc2, hc3⟩, ⟨k, hk, h5, h6, h7⟩⟩, hi1, hi2⟩ := h
  simp only [Nat.zero_add] at h6
  unfold f_X9_note f_X10_note
  rw [in_099]
  rcases pcase x1 with ⟨a, ha, rfl, hp, hq⟩ | ⟨hp, hq⟩
  · by_cases g1 : x2 < 0
    · simp only [hp, hq, bS, i10, i00, if_pos g1, if_neg (fun q : 0 ≤ x2 ∧ x2 ≤ 99 => absurd q.1 (Int32.not_le.mpr g1))]
      exact ⟨_, _, rfl, rfl, rfl, h0⟩
    · by_cases g2 : x2 ≤ 99
      · obtain ⟨mm, hm, rfl⟩ := rng (n := 99) (by decide) (Int32.not_lt.mp g1) g2
        have g3 : nI mm < 100 := nI_lt (b := 100) (by omega) (by decide)
        simp only [hp, hq, bS, i10, if_neg g1, if_pos g3, if_pos (show 0 ≤ nI mm ∧ nI mm ≤ 99 from ⟨Int32.not_lt.mp g1, g2⟩), gd_t ib161, show Int32.toNatClampNeg 161 = 161 from rfl, h6]
        by_cases hk12 : k = 12
        · have e1 : ¬ X 18 < 12 := by rw [h5, hk12]; decide
          have e2 : nI k = 12 := by rw [hk12]; rfl
          simp only [if_neg e1, if_pos e2]
          exact ⟨_, _, rfl, rfl, rfl, h0⟩
        · have e1 : X 18 < 12 := by rw [h5]; exact nI_lt (b := 12) (by omega) (by decide)
          have e2 : ¬ nI k = 12 := fun e => hk12 ((nI_eq (by omega) (by decide)).mp (show nI k = nI 12 from e))
          have e3 : (162 : Int32) + 2 * nI k = nI (162 + 2 * k) := by rw [show (2 : Int32) = nI 2 from rfl, nI_mul]; exact nI_add 162 (2 * k)
          have e4 : nI (162 + 2 * k) + 1 = nI (163 + 2 * k) := by rw [st1]; congr 1; omega
          have u1 : upd (YA 0) (162 + 2 * k) (nI a) 161 = nI k := (upd_ne _ _ (by omega)).trans h6
          simp only [if_pos e1, if_neg e2]
          simp only [h5, addNote_nI _ _ (show k < 12 by omega), bS, e3, gd_t (ib_nI (show 162 + 2 * k < 558 by omega) (by decide)), nI_clamp (show 162 + 2 * k < 2 ^ 31 by omega), u1, e4, gd_t (ib_nI (show 163 + 2 * k < 558 by omega) (by decide)), nI_clamp (show 163 + 2 * k < 2 ^ 31 by omega)]
          have u2 : upd (upd (YA 0) (162 + 2 * k) (nI a)) (163 + 2 * k) (nI mm) 161 = nI k := (upd_ne _ _ (by omega)).trans u1
          simp only [u2, st1]
          refine ⟨_, _, rfl, rfl, ?_, ht, ?_, hl, ?_, ?_, ?_⟩
          · show nI (k + 1) = upd (upd (upd (YA 0) (162 + 2 * k) (nI a)) (163 + 2 * k) (nI mm)) 161 (nI (k + 1)) 161
            exact (upd_same _ _ _).symm
          · refine RCan_row hc (fun i hi => ?_)
            show upd (upd (upd (YA 0) (162 + 2 * k) (nI a)) (163 + 2 * k) (nI mm)) 161 (nI (k + 1)) (0 + i) = _
            rw [upd_ne _ _ (by omega), upd_ne _ _ (by omega), upd_ne _ _ (by omega)]
          · show RBook (X 17) (nI (k + 1)) (XA 8) (XA 9) (XA 10) (XA 11) (XA 12) (upd (XA 13) k (nI a)) (upd (XA 14) k (nI mm)) (upd (upd (upd (YA 0) (162 + 2 * k) (nI a)) (163 + 2 * k) (nI mm)) 161 (nI (k + 1))) 0
            refine ⟨fun c d hc' hd' => ?_, ⟨N, hN, hc1, ?_, fun i hi => ?_⟩, k + 1, by omega, rfl, upd_same _ _ _, fun i hi => ?_⟩
            · rw [upd_ne _ _ (by omega), upd_ne _ _ (by omega), upd_ne _ _ (by omega), upd_ne _ _ (by omega), upd_ne _ _ (by omega), upd_ne _ _ (by omega)]
              exact hd c d hc' hd'
            · rw [upd_ne _ _ (by omega), upd_ne _ _ (by omega), upd_ne _ _ (by omega)]
              exact hc2
            · obtain ⟨g1, g2, g3, g4, g5⟩ := hc3 i hi
              refine ⟨?_, ?_, ?_, ?_, g5⟩
              all_goals rw [upd_ne _ _ (by omega), upd_ne _ _ (by omega), upd_ne _ _ (by omega)]
              · exact g1
              · exact g2
              · exact g3
              · exact g4
            · by_cases hik : i = k
              · subst hik
                refine ⟨?_, ?_, ⟨a, ha, upd_same _ _ _⟩, ⟨mm, by omega, upd_same _ _ _⟩⟩
                · rw [upd_same, upd_ne _ _ (by omega), upd_ne _ _ (by omega), Nat.zero_add, upd_same]
                · rw [upd_same, upd_ne _ _ (by omega), Nat.zero_add, upd_same]
              · obtain ⟨q1, q2, ⟨c1, q3, q4⟩, c2, q5, q6⟩ := h7 i (by omega)
                refine ⟨?_, ?_, ⟨c1, q3, (upd_ne _ _ hik).trans q4⟩, ⟨c2, q5, (upd_ne _ _ hik).trans q6⟩⟩
                · rw [upd_ne (XA 13) _ hik, upd_ne _ _ (by omega), upd_ne _ _ (by omega), upd_ne _ _ (by omega)]; exact q1
                · rw [upd_ne (XA 14) _ hik, upd_ne _ _ (by omega), upd_ne _ _ (by omega), upd_ne _ _ (by omega)]; exact q2
          · refine RImg_row hi1 (fun i hi => ?_)
            show upd (upd (upd (YA 0) (162 + 2 * k) (nI a)) (163 + 2 * k) (nI mm)) 161 (nI (k + 1)) (186 + i) = _
            rw [upd_ne _ _ (by omega), upd_ne _ _ (by omega), upd_ne _ _ (by omega)]
          · refine RImg_row hi2 (fun i hi => ?_)
            show upd (upd (upd (YA 0) (162 + 2 * k) (nI a)) (163 + 2 * k) (nI mm)) 161 (nI (k + 1)) (372 + i) = _
            rw [upd_ne _ _ (by omega), upd_ne _ _ (by omega), upd_ne _ _ (by omega)]
      · have g3 : ¬ x2 < 100 := by
          intro g3
          obtain ⟨j, hj, rfl⟩ := lit_lt (n := 100) g3 (Int32.not_lt.mp g1) (by decide)
          exact g2 (nI_le (b := 99) (by omega) (by decide))
        simp only [hp, hq, bS, i10, i00, if_neg g1, if_neg g3, if_neg (fun q : 0 ≤ x2 ∧ x2 ≤ 99 => g2 q.2)]
        exact ⟨_, _, rfl, rfl, rfl, h0⟩
  · simp only [hp, hq, bS, i00]
    exact ⟨_, _, rfl, rfl, rfl, h0⟩
/-! count -/
theorem rocks_L4C (gr : Nat → Int32) {a b : Nat} (ha : a ≤ 6) (hb : b ≤ 6) : ∀ (d k n : Nat), k + d = a * b → d < n → f_X2_rocks_L4 (nI a) (nI b) gr n (sm (fun i => if gr i = -1 then 0 else 1) k) (nI k) = some (sm (fun i => if gr i = -1 then 0 else 1) (a * b)) := by
  have h36 := mul_le36 ha hb
  have ec : f_X2_cells (nI a) (nI b) = some (nI (a * b)) := by unfold f_X2_cells; rw [nI_mul]
  intro d
  induction d with
  | zero =>
    intro k n hk hn
    obtain ⟨n, rfl⟩ : ∃ m, n = m + 1 := ⟨n - 1, by omega⟩
    have : k = a * b := by omega
    subst this
    rw [f_X2_rocks_L4, ec, bS, if_pos (nI_le (by omega) (by omega))]
  | succ d ih =>
    intro k n hk hn
    obtain ⟨n, rfl⟩ : ∃ m, n = m + 1 := ⟨n - 1, by omega⟩
    have := ih (k + 1) n (by omega) (by omega)
    rw [sm] at this
    rw [f_X2_rocks_L4, ec, bS, if_neg (nI_ge (by omega) (by omega)), isRockC gr rfl rfl ha hb (by omega), bS]
    unfold f_X2_rocks_J23
    rw [st1]
    by_cases h : gr k = -1
    · rw [if_pos h, i00]; rw [if_pos h, add_0'] at this; exact this
    · rw [if_neg h, i10]; rw [if_neg h] at this; exact this
def sw (wi : Nat → Int32) : Nat → Int32
  | 0 => 0
  | k + 1 => if wi k = -1 then sw wi k else sw wi k ||| (1 <<< (nI k &&& 31))
theorem somewhere_L4C (wi : Nat → Int32) : ∀ (d k n : Nat), k + d = 6 → d < n → f_X2_personsSomewhere_L4 wi n (sw wi k) (nI k) = some (sw wi 6) := by
  intro d
  induction d with
  | zero =>
    intro k n hk hn
    obtain ⟨n, rfl⟩ : ∃ m, n = m + 1 := ⟨n - 1, by omega⟩
    have : k = 6 := by omega
    subst this
    rw [f_X2_personsSomewhere_L4]
    rfl
  | succ d ih =>
    intro k n hk hn
    obtain ⟨n, rfl⟩ : ∃ m, n = m + 1 := ⟨n - 1, by omega⟩
    have := ih (k + 1) n (by omega) (by omega)
    rw [sw] at this
    rw [f_X2_personsSomewhere_L4, if_neg (show ¬ (6 : Int32) ≤ nI k from nI_ge (b := 6) (by omega) (by decide)), gd_t (ib_nI (by omega) (by decide)), nI_clamp (by omega)]
    unfold f_X2_personsSomewhere_J26
    rw [st1]
    by_cases h : wi k = -1
    · rw [if_pos h]; rw [if_pos h] at this; exact this
    · rw [if_neg h]; rw [if_neg h] at this; exact this
theorem sw_pAt (wi : Nat → Int32) : sw wi 6 = 63 &&& (pAt wi (-1) 6 ^^^ (-1)) := by
  simp only [sw, pAt]
  by_cases h0 : wi 0 = -1 <;> by_cases h1 : wi 1 = -1 <;> by_cases h2 : wi 2 = -1 <;> by_cases h3 : wi 3 = -1 <;> by_cases h4 : wi 4 = -1 <;> by_cases h5 : wi 5 = -1 <;> simp only [h0, h1, h2, h3, h4, h5, if_true, if_false] <;> decide
theorem count_L4M (len lm ni ti fa x1 : Int32) (row : Nat → Int32) {a b : Nat} (ha : a ≤ 6) (hb : b ≤ 6) (h0 : row 0 = nI a) (h1 : row 1 = nI b) : ∀ (d k n : Nat), k + d = a * b → d < n → f_X10_count_L4 len lm ni ti fa row x1 n (sm (fun i => if row (2 + i) = -1 then 0 else 1) k) (nI k) = f_X10_count_J34 len lm ni ti fa row x1 (sm (fun i => if row (2 + i) = -1 then 0 else 1) (a * b)) := by
  have h36 := mul_le36 ha hb
  intro d
  induction d with
  | zero =>
    intro k n hk hn
    obtain ⟨n, rfl⟩ : ∃ m, n = m + 1 := ⟨n - 1, by omega⟩
    have : k = a * b := by omega
    subst this
    rw [f_X10_count_L4, cellsM h0 h1, bS, if_pos (nI_le (by omega) (by omega))]
  | succ d ih =>
    intro k n hk hn
    obtain ⟨n, rfl⟩ : ∃ m, n = m + 1 := ⟨n - 1, by omega⟩
    have := ih (k + 1) n (by omega) (by omega)
    rw [sm] at this
    rw [f_X10_count_L4, cellsM h0 h1, bS, if_neg (nI_ge (by omega) (by omega)), isFloorM row (by omega), bS]
    unfold f_X10_count_J26
    rw [st1]
    by_cases h : row (2 + k) = -1
    · rw [if_pos h, i10]; rw [if_pos h] at this; exact this
    · rw [if_neg h, i00]; rw [if_neg h] at this; exact this
theorem ob_count : Ob_count RR := by
  intro X XA XL Y YA x1 h
  have h0 := h
  obtain ⟨⟨tn, t1, t2, t3, t4⟩, ⟨a, b, ha1, ha, hb1, hb, hw, hh, hr0, hr1, hg, hp⟩, ⟨l1, l2, l3, l4, l5⟩, ⟨hd, ⟨N, hN, hc1, hc2, hc3⟩, ⟨k, hk, h5, h6, h7⟩⟩, hi1, hi2⟩ := h
  have h36 := mul_le36 ha hb
  simp only [Nat.zero_add] at hr0 hr1 hg hp hc2 h6
  have e1 : f_X10_count (Y 0) (Y 2) (Y 3) (Y 4) (Y 5) (YA 0) x1 = f_X10_count_J34 (Y 0) (Y 2) (Y 3) (Y 4) (Y 5) (YA 0) x1 (sm (fun i => if YA 0 (2 + i) = -1 then 0 else 1) (a * b)) := count_L4M _ _ _ _ _ x1 (YA 0) ha hb hr0 hr1 (a * b) 0 FU (by omega) (by have : FU = 5000 := rfl; omega)
  have e2 : f_X2_rocks (X 5) (X 6) (XA 2) = some (sm (fun i => if XA 2 i = -1 then 0 else 1) (a * b)) := by
    rw [hw, hh]; exact rocks_L4C (XA 2) ha hb (a * b) 0 FU (by omega) (by have : FU = 5000 := rfl; omega)
  have e3 : f_X2_personsSomewhere (XA 3) = some (sw (XA 3) 6) := somewhere_L4C (XA 3) 6 0 FU rfl (by decide)
  rw [e1]
  unfold f_X9_count f_X10_count_J34
  simp only [e2, e3, bS, personsAtM, gd_t (show ib 0 558 by decide), gd_t (show ib 1 558 by decide), gd_t ib80, gd_t ib161, show Int32.toNatClampNeg 0 = 0 from rfl, show Int32.toNatClampNeg 1 = 1 from rfl, show Int32.toNatClampNeg 80 = 80 from rfl, show Int32.toNatClampNeg 161 = 161 from rfl]
  by_cases q0 : x1 = 0
  · simp only [if_pos q0]; exact ⟨_, _, rfl, rfl, by rw [hw, hr0], h0⟩
  simp only [if_neg q0]
  by_cases q1 : x1 = 1
  · simp only [if_pos q1]; exact ⟨_, _, rfl, rfl, by rw [hh, hr1], h0⟩
  simp only [if_neg q1]
  by_cases q2 : x1 = 2
  · simp only [if_pos q2]; exact ⟨_, _, rfl, rfl, sm_congr _ (fun i hi => by rw [(hg i (by omega)).1]), h0⟩
  simp only [if_neg q2]
  by_cases q3 : x1 = 3
  · simp only [if_pos q3]; exact ⟨_, _, rfl, rfl, by rw [sw_pAt, pAt_congr 6 (fun p hp6 => (hp p hp6).1.symm)], h0⟩
  simp only [if_neg q3]
  by_cases q4 : x1 = 4
  · simp only [if_pos q4]; exact ⟨_, _, rfl, rfl, l2.symm, h0⟩
  simp only [if_neg q4]
  by_cases q5 : x1 = 5
  · simp only [if_pos q5]; exact ⟨_, _, rfl, rfl, by rw [hc1, hc2], h0⟩
  simp only [if_neg q5]
  by_cases q6 : x1 = 6
  · simp only [if_pos q6]; exact ⟨_, _, rfl, rfl, by rw [h5, h6], h0⟩
  simp only [if_neg q6]
  by_cases q7 : x1 = 7
  · simp only [if_pos q7]; exact ⟨_, _, rfl, rfl, l1.symm, h0⟩
  simp only [if_neg q7]
  by_cases q8 : x1 = 8
  · simp only [if_pos q8]; exact ⟨_, _, rfl, rfl, by rw [t2, t3], h0⟩
  simp only [if_neg q8]
  by_cases q9 : x1 = 9
  · simp only [if_pos q9]; exact ⟨_, _, rfl, rfl, l3.symm, h0⟩
  simp only [if_neg q9]
  by_cases q10 : x1 = 10
  · simp only [if_pos q10]; exact ⟨_, _, rfl, rfl, l4.symm, h0⟩
  simp only [if_neg q10]
  exact ⟨_, _, rfl, rfl, rfl, h0⟩
end M45
