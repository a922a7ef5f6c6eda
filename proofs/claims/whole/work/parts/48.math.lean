section M48
theorem RCan_cp {w h : Int32} {gr wi row gr2 wi2 row2 : Nat → Int32} {o o2 : Nat} (H : RCan w h gr wi row o) (e1 : ∀ i, i < 36 → gr2 i = gr i) (e2 : ∀ i, i < 6 → wi2 i = wi i) (e : ∀ i, i < 44 → row2 (o2 + i) = row (o + i)) : RCan w h gr2 wi2 row2 o2 := by
  obtain ⟨a, b, h1, h2, h3, h4, h5, h6, h7, h8, h9, h10⟩ := H
  have h36 := mul_le36 h2 h4
  refine ⟨a, b, h1, h2, h3, h4, h5, h6, (e 0 (by decide)).trans h7, (e 1 (by decide)).trans h8, fun i hi => ?_, fun p hp => ?_⟩
  · rw [e (2 + i) (by omega), e1 i hi]
    exact h9 i hi
  · rw [e (38 + p) (by omega), e2 p hp]
    refine ⟨(h10 p hp).1, (h10 p hp).2.imp id ?_⟩
    rintro ⟨c, z1, z2, z3⟩
    exact ⟨c, z1, z2, (e1 c (by omega)).trans z3⟩
theorem RBook_cp {cries notes : Int32} {de ci lo hi ho he mi row de2 ci2 lo2 hi2 ho2 he2 mi2 row2 : Nat → Int32} {o o2 : Nat} (H : RBook cries notes de ci lo hi ho he mi row o) (e1 : ∀ i, i < 36 → de2 i = de i) (e2 : ∀ i, i < 20 → ci2 i = ci i) (e3 : ∀ i, i < 20 → lo2 i = lo i) (e4 : ∀ i, i < 20 → hi2 i = nb hi i) (e5 : ∀ i, i < 20 → ho2 i = ho i) (e6 : ∀ i, i < 12 → he2 i = he i) (e7 : ∀ i, i < 12 → mi2 i = mi i) (e : ∀ i, 44 ≤ i → i < 186 → row2 (o2 + i) = row (o + i)) : RBook cries notes de2 ci2 lo2 hi2 ho2 he2 mi2 row2 o2 := by
  obtain ⟨h1, ⟨n, hn, h2, h3, h4⟩, k, hk, h5, h6, h7⟩ := H
  refine ⟨fun a b ha hb => ?_, ⟨n, hn, h2, (e 80 (by decide) (by decide)).trans h3, fun i hi' => ?_⟩, k, hk, h5, (e 161 (by decide) (by decide)).trans h6, fun i hi' => ?_⟩
  · rw [e1 _ (by omega), e _ (by omega) (by omega), e _ (by omega) (by omega)]
    exact h1 a b ha hb
  · obtain ⟨g1, g2, g3, g4, g5, g6, g7, g8⟩ := h4 i hi'
    have en : hi2 i = hi i := by
      rw [e4 i (by omega)]
      show vp_nar .boolean (hi i) = hi i
      rcases g7 with q | q <;> rw [q] <;> rfl
    refine ⟨?_, ?_, ?_, ?_, ?_, ?_, ?_, ?_⟩
    · rw [e _ (by omega) (by omega), e2 i (by omega)]; exact g1
    · rw [e _ (by omega) (by omega), e3 i (by omega)]; exact g2
    · rw [e _ (by omega) (by omega), en]; exact g3
    · rw [e _ (by omega) (by omega), e5 i (by omega)]; exact g4
    · rw [e2 i (by omega)]; exact g5
    · rw [e3 i (by omega)]; exact g6
    · rw [en]; exact g7
    · rw [e5 i (by omega)]; exact g8
  · obtain ⟨g1, g2, g3, g4⟩ := h7 i hi'
    refine ⟨?_, ?_, ?_, ?_⟩
    · rw [e _ (by omega) (by omega), e6 i (by omega)]; exact g1
    · rw [e _ (by omega) (by omega), e7 i (by omega)]; exact g2
    · rw [e6 i (by omega)]; exact g3
    · rw [e7 i (by omega)]; exact g4
theorem in_01 (x : Int32) : f_X10_in x.toInt64 0 1 = some (if 0 ≤ x ∧ x ≤ 1 then 1 else 0) := in_32 x 0 1
theorem case01 (x : Int32) : x = 0 ∨ x = 1 ∨ (¬ x = 0 ∧ ¬ x = 1 ∧ ¬ (0 ≤ x ∧ x ≤ 1)) := by
  by_cases h : 0 ≤ x ∧ x ≤ 1
  · obtain ⟨j, hj, rfl⟩ := rng (n := 1) (by decide) h.1 h.2
    rcases (show j = 0 ∨ j = 1 by omega) with rfl | rfl
    · exact Or.inl rfl
    · exact Or.inr (Or.inl rfl)
  · refine Or.inr (Or.inr ⟨?_, ?_, h⟩)
    · rintro rfl; exact h (by decide)
    · rintro rfl; exact h (by decide)
theorem ob_keep : Ob_keep RR := by
  intro X XA XL Y YA x1 h
  have h0 := h
  obtain ⟨ht, hc, hl, hbk, hi1, hi2⟩ := h
  have hcr : ∃ n : Nat, X 17 = nI n ∧ YA 0 80 = nI n := by
    obtain ⟨-, ⟨n, -, h2, h3, -⟩, -⟩ := hbk
    exact ⟨n, h2, by rw [← h3, Nat.zero_add]⟩
  obtain ⟨n, hn1, hn2⟩ := hcr
  unfold f_X9_keep f_X10_keep f_X9_imageOf
  rw [in_01]
  rcases case01 x1 with rfl | rfl | ⟨n0, n1, n2⟩
  · obtain ⟨row', hr1, hr2, hr3⟩ := copyM (f := 0) (t := 1) (by decide) (by decide) (by decide) (YA 0)
    have er : f_X10_copy (YA 0) 0 (1 + 0) = some row' := hr1
    have lo : ∀ i, i < 186 ∨ 372 ≤ i → row' i = YA 0 i := fun i hi => hr3 i (fun j hj => by omega)
    simp only [if_pos (show (0 : Int32) = 0 from rfl), if_pos (show (0 : Int32) ≤ 0 ∧ (0 : Int32) ≤ 1 by decide), bS, i10, if_pos (show (0 : Nat) = 0 from rfl), copy2, copy1, er, gd_t ib80, gd_t (show ib 0 2 by decide)]
    refine ⟨_, _, rfl, rfl, ?_, ht, ?_, hl, ?_, ?_, ?_⟩
    · show X 17 = row' 80
      rw [lo 80 (by omega), hn1, hn2]
    · exact RCan_row hc (fun i hi => lo _ (by omega))
    · exact RBook_row hbk (fun i h1 h2 => lo _ (by omega))
    · refine ⟨rfl, Or.inr ⟨rfl, ?_, ?_, rfl, rfl, rfl, rfl, fun i hi => cp_lt _ _ hi⟩⟩
      · exact RCan_cp hc (fun i hi => cp_lt _ _ hi) (fun i hi => cp_lt _ _ hi) (fun i hi => (hr2 i (by omega)).trans (by rw [Nat.mul_zero]))
      · exact RBook_cp hbk (fun i hi => cp_lt _ _ hi) (fun i hi => cp_lt _ _ hi) (fun i hi => cp_lt _ _ hi) (fun i hi => cp_lt _ _ hi) (fun i hi => cp_lt _ _ hi) (fun i hi => cp_lt _ _ hi) (fun i hi => cp_lt _ _ hi) (fun i h1 hi => (hr2 i (by omega)).trans (by rw [Nat.mul_zero]))
    · have := RImg_row hi2 (row' := row') (fun i hi => lo _ (by omega))
      exact this
  · obtain ⟨row', hr1, hr2, hr3⟩ := copyM (f := 0) (t := 2) (by decide) (by decide) (by decide) (YA 0)
    have er : f_X10_copy (YA 0) 0 (1 + 1) = some row' := hr1
    have lo : ∀ i, i < 372 → row' i = YA 0 i := fun i hi => hr3 i (fun j hj => by omega)
    simp only [if_neg (show ¬ (1 : Int32) = 0 by decide), if_pos (show (1 : Int32) = 1 from rfl), if_pos (show (0 : Int32) ≤ 1 ∧ (1 : Int32) ≤ 1 by decide), bS, i10, if_neg (show ¬ (1 : Nat) = 0 by decide), if_pos (show (1 : Nat) = 1 from rfl), copy2, copy1, er, gd_t ib80, gd_t (show ib 1 2 by decide)]
    refine ⟨_, _, rfl, rfl, ?_, ht, ?_, hl, ?_, ?_, ?_⟩
    · show X 17 = row' 80
      rw [lo 80 (by omega), hn1, hn2]
    · exact RCan_row hc (fun i hi => lo _ (by omega))
    · exact RBook_row hbk (fun i h1 h2 => lo _ (by omega))
    · have := RImg_row hi1 (row' := row') (fun i hi => lo _ (by omega))
      exact this
    · refine ⟨rfl, Or.inr ⟨rfl, ?_, ?_, rfl, rfl, rfl, rfl, fun i hi => cp_lt _ _ hi⟩⟩
      · exact RCan_cp hc (fun i hi => cp_lt _ _ hi) (fun i hi => cp_lt _ _ hi) (fun i hi => (hr2 i (by omega)).trans (by rw [Nat.mul_zero]))
      · exact RBook_cp hbk (fun i hi => cp_lt _ _ hi) (fun i hi => cp_lt _ _ hi) (fun i hi => cp_lt _ _ hi) (fun i hi => cp_lt _ _ hi) (fun i hi => cp_lt _ _ hi) (fun i hi => cp_lt _ _ hi) (fun i hi => cp_lt _ _ hi) (fun i h1 hi => (hr2 i (by omega)).trans (by rw [Nat.mul_zero]))
  · simp only [if_neg n0, if_neg n1, if_neg n2, bS, i00, if_neg (show ¬ (2 : Nat) = 0 by decide), if_neg (show ¬ (2 : Nat) = 1 by decide)]
    exact ⟨_, _, rfl, rfl, rfl, h0⟩
theorem RLaw_cp {fade laws nh nt fade2 laws2 nh2 nt2 : Int32} {lp lp2 : Nat → Int32} {yfade ylaws ynight ytimes : Int32} {yl : Nat → Int32} (H : RLaw fade laws nh nt lp yfade ylaws ynight ytimes yl) (h1 : fade2 = fade) (h2 : laws2 = laws) (h3 : nh2 = nh) (h4 : nt2 = nt) (h5 : ∀ i, i < 18 → lp2 i = lp i) : RLaw fade2 laws2 nh2 nt2 lp2 yfade ylaws ynight ytimes yl := by
  subst h1 h2 h3 h4
  obtain ⟨g1, g2, g3, g4, g5, g6, n, hn, g7, g8⟩ := H
  refine ⟨g1, g2, g3, g4, g5, g6, n, hn, g7, fun i hi => ?_⟩
  rw [h5 (3 * i) (by omega), h5 (3 * i + 1) (by omega), h5 (3 * i + 2) (by omega)]
  exact g8 i hi
theorem RImg_law {kept yk w h fade laws nh nt cries notes : Int32} {gr wi lp debts criers louds highs hours hearers minutes row row' : Nat → Int32} {o : Nat} {fade0 laws0 nh0 nt0 fade2 laws2 nh2 nt2 : Int32} {lp0 lp2 : Nat → Int32} (H : RImg kept yk w h fade laws nh nt cries notes gr wi lp debts criers louds highs hours hearers minutes row o fade0 laws0 nh0 nt0 lp0) (h1 : fade2 = fade0) (h2 : laws2 = laws0) (h3 : nh2 = nh0) (h4 : nt2 = nt0) (h5 : ∀ i, i < 18 → lp2 i = lp0 i) (e : ∀ i, i < 186 → row' (o + i) = row (o + i)) : RImg kept yk w h fade laws nh nt cries notes gr wi lp debts criers louds highs hours hearers minutes row' o fade2 laws2 nh2 nt2 lp2 := by
  subst h1 h2 h3 h4
  obtain ⟨g1, g2 | ⟨g2, g3, g4, g5, g6, g7, g8, g9⟩⟩ := RImg_row H e
  · exact ⟨g1, Or.inl g2⟩
  · exact ⟨g1, Or.inr ⟨g2, g3, g4, g5, g6, g7, g8, fun i hi => (g9 i hi).trans (h5 i hi).symm⟩⟩
theorem ob_back : Ob_back RR := by
  intro X XA XL Y YA x1 h
  have h0 := h
  obtain ⟨ht, hc, hl, hbk, hi1, hi2⟩ := h
  unfold f_X9_back f_X10_back f_X9_imageOf
  rw [in_01]
  rcases case01 x1 with rfl | rfl | ⟨n0, n1, n2⟩
  · obtain ⟨row', hr1, hr2, hr3⟩ := copyM (f := 1) (t := 0) (by decide) (by decide) (by decide) (YA 0)
    have er : f_X10_copy (YA 0) (1 + 0) 0 = some row' := hr1
    have lo : ∀ i, 186 ≤ i → row' i = YA 0 i := fun i hi => hr3 i (fun j hj => by omega)
    have hk1 := hi1.1
    simp only [if_pos (show (0 : Int32) = 0 from rfl), if_pos (show (0 : Int32) ≤ 0 ∧ (0 : Int32) ≤ 1 by decide), bS, i10, if_pos (show (0 : Nat) = 0 from rfl), copy2, copy1, er, gd_t ib80, gd_t (show ib 0 2 by decide), show Int32.toNatClampNeg 0 = 0 from rfl, hk1]
    by_cases hk : X 19 = 0
    · simp only [if_pos hk]
      exact ⟨_, _, rfl, rfl, rfl, h0⟩
    · obtain ⟨q1, q2, q3, q4, q5, q6, q7, q8⟩ := hi1.2.resolve_left hk
      simp only [if_neg hk]
      have hr2' : ∀ i, i < 186 → row' (0 + i) = YA 0 (186 + i) := fun i hi => by have := hr2 i hi; rw [Nat.mul_zero, Nat.mul_one] at this; exact this
      refine ⟨_, _, rfl, rfl, ?_, ht, ?_, ?_, ?_, ?_, ?_⟩
      · obtain ⟨-, ⟨n, -, h2, h3, -⟩, -⟩ := q3
        show X 26 = row' 80
        rw [h2, ← h3]
        exact (hr2' 80 (by omega)).symm.trans (by rw [Nat.zero_add])
      · exact RCan_cp q2 (fun i hi => cp_lt _ _ hi) (fun i hi => cp_lt _ _ hi) (fun i hi => hr2' i (by omega))
      · exact RLaw_cp hl q4 q5 q6 q7 (fun i hi => (cp_lt _ _ hi).trans (q8 i hi))
      · exact RBook_cp q3 (fun i hi => cp_lt _ _ hi) (fun i hi => cp_lt _ _ hi) (fun i hi => cp_lt _ _ hi) (fun i hi => cp_lt _ _ hi) (fun i hi => cp_lt _ _ hi) (fun i hi => cp_lt _ _ hi) (fun i hi => cp_lt _ _ hi) (fun i h1 hi => hr2' i hi)
      · exact RImg_law hi1 q4 q5 q6 q7 (fun i hi => (cp_lt _ _ hi).trans (q8 i hi)) (fun i hi => lo _ (by omega))
      · exact RImg_law hi2 q4 q5 q6 q7 (fun i hi => (cp_lt _ _ hi).trans (q8 i hi)) (fun i hi => lo _ (by omega))
  · obtain ⟨row', hr1, hr2, hr3⟩ := copyM (f := 2) (t := 0) (by decide) (by decide) (by decide) (YA 0)
    have er : f_X10_copy (YA 0) (1 + 1) 0 = some row' := hr1
    have lo : ∀ i, 186 ≤ i → row' i = YA 0 i := fun i hi => hr3 i (fun j hj => by omega)
    have hk1 := hi2.1
    simp only [if_neg (show ¬ (1 : Int32) = 0 by decide), if_pos (show (1 : Int32) = 1 from rfl), if_pos (show (0 : Int32) ≤ 1 ∧ (1 : Int32) ≤ 1 by decide), bS, i10, if_neg (show ¬ (1 : Nat) = 0 by decide), if_pos (show (1 : Nat) = 1 from rfl), copy2, copy1, er, gd_t ib80, gd_t (show ib 1 2 by decide), show Int32.toNatClampNeg 1 = 1 from rfl, hk1]
    by_cases hk : X 28 = 0
    · simp only [if_pos hk]
      exact ⟨_, _, rfl, rfl, rfl, h0⟩
    · obtain ⟨q1, q2, q3, q4, q5, q6, q7, q8⟩ := hi2.2.resolve_left hk
      simp only [if_neg hk]
      have hr2' : ∀ i, i < 186 → row' (0 + i) = YA 0 (372 + i) := fun i hi => by have := hr2 i hi; rw [Nat.mul_zero] at this; exact this
      refine ⟨_, _, rfl, rfl, ?_, ht, ?_, ?_, ?_, ?_, ?_⟩
      · obtain ⟨-, ⟨n, -, h2, h3, -⟩, -⟩ := q3
        show X 35 = row' 80
        rw [h2, ← h3]
        exact (hr2' 80 (by omega)).symm.trans (by rw [Nat.zero_add])
      · exact RCan_cp q2 (fun i hi => cp_lt _ _ hi) (fun i hi => cp_lt _ _ hi) (fun i hi => hr2' i (by omega))
      · exact RLaw_cp hl q4 q5 q6 q7 (fun i hi => (cp_lt _ _ hi).trans (q8 i hi))
      · exact RBook_cp q3 (fun i hi => cp_lt _ _ hi) (fun i hi => cp_lt _ _ hi) (fun i hi => cp_lt _ _ hi) (fun i hi => cp_lt _ _ hi) (fun i hi => cp_lt _ _ hi) (fun i hi => cp_lt _ _ hi) (fun i hi => cp_lt _ _ hi) (fun i h1 hi => hr2' i hi)
      · exact RImg_law hi1 q4 q5 q6 q7 (fun i hi => (cp_lt _ _ hi).trans (q8 i hi)) (fun i hi => lo _ (by omega))
      · exact RImg_law hi2 q4 q5 q6 q7 (fun i hi => (cp_lt _ _ hi).trans (q8 i hi)) (fun i hi => lo _ (by omega))
  · simp only [if_neg n0, if_neg n1, if_neg n2, bS, i00, if_neg (show ¬ (2 : Nat) = 0 by decide), if_neg (show ¬ (2 : Nat) = 1 by decide)]
    exact ⟨_, _, rfl, rfl, rfl, h0⟩
end M48
