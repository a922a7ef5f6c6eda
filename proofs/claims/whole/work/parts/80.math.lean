section M80
theorem tl_none {rd : Nat → Int32} {s0 : TS} {k : Nat} (h : tl rd s0 k = none) : ∀ j, tl rd s0 (k + j) = none := by
  intro j
  induction j with
  | zero => exact h
  | succ j ih =>
    rw [← Nat.add_assoc, tl, ih]
    rfl
theorem can_L13 {m : Nat} (hm : m ≤ 10) (at' pl en rW rH rL : Int32) (ik rd rr : Nat → Int32) {s0 s' : TS} (hs' : tl rd s0 m = some s') : ∀ (d k fu : Nat) (s : TS), k + d = m → d < fu → tl rd s0 k = some s → f_X10_canyon_L13 (nI m) at' pl en rW rH rL ik rd rr fu (nI k) s.1 s.2.1 s.2.2.1 s.2.2.2.1 s.2.2.2.2.1 s.2.2.2.2.2 = f_X10_canyon_J34 (nI m) s'.1 s'.2.1 s'.2.2.1 s'.2.2.2.1 at' pl en rW rH rL s'.2.2.2.2.1 ik rd s'.2.2.2.2.2 rr := by
  intro d
  induction d with
  | zero =>
    intro k fu s hk hfu hs
    obtain ⟨fu, rfl⟩ : ∃ m, fu = m + 1 := ⟨fu - 1, by omega⟩
    have : k = m := by omega
    subst this
    rw [hs'] at hs
    cases hs
    rw [f_X10_canyon_L13, if_pos (nI_le (Nat.le_refl _) (by omega))]
  | succ d ih =>
    intro k fu s hk hfu hs
    obtain ⟨fu, rfl⟩ : ∃ m, fu = m + 1 := ⟨fu - 1, by omega⟩
    cases ht : tl rd s0 (k + 1) with
    | none =>
      have := tl_none ht d
      rw [show k + 1 + d = m by omega, hs'] at this
      cases this
    | some s1 =>
      have ht' : tellS s rd (nI (4 * k)) = some s1 := by
        rw [tl, hs, bN] at ht
        exact ht
      have ht'' : f_X10_tell s.1 s.2.1 s.2.2.1 s.2.2.2.1 s.2.2.2.2.1 rd s.2.2.2.2.2 (nI (4 * k)) = some s1 := ht'
      rw [f_X10_canyon_L13, if_neg (nI_ge (show k < m by omega) (by omega)), b4k, ht'', bN, st1]
      exact ih (k + 1) fu s1 (by omega) (by omega) ht
theorem can_L37 (mn lm ni ti fd at' pl en rW rH rL : Int32) (ik rd laws rr : Nat → Int32) : ∀ (d j fu : Nat) (row : Nat → Int32), j + d = 186 → d < fu → ∃ row', f_X10_canyon_L37 mn lm ni ti fd at' pl en rW rH rL ik rd laws rr fu (nI j) row = f_X10_canyon_J57 mn lm ni ti fd at' pl en rW rH rL row' ik rd laws rr ∧ ∀ i, row' i = if j ≤ i ∧ i < 186 then 0 else row i := by
  intro d
  induction d with
  | zero =>
    intro j fu row hj hfu
    obtain ⟨fu, rfl⟩ : ∃ m, fu = m + 1 := ⟨fu - 1, by omega⟩
    have : j = 186 := by omega
    subst this
    exact ⟨row, by rw [f_X10_canyon_L37, if_pos (show (186 : Int32) ≤ nI 186 by decide)], fun i => by rw [if_neg (by omega)]⟩
  | succ d ih =>
    intro j fu row hj hfu
    obtain ⟨fu, rfl⟩ : ∃ m, fu = m + 1 := ⟨fu - 1, by omega⟩
    obtain ⟨row', h1, h2⟩ := ih (j + 1) fu (upd row j 0) (by omega) (by omega)
    refine ⟨row', ?_, fun i => ?_⟩
    · rw [← h1, f_X10_canyon_L37, if_neg (show ¬ (186 : Int32) ≤ nI j from nI_ge (b := 186) (by omega) (by decide)), gd_t (ib_nI (show j < 558 by omega) (by decide)), st1, nI_clamp (by omega)]
    · rw [h2]
      by_cases q : i = j
      · subst q
        rw [if_neg (by omega), if_pos (by omega), upd_same]
      · rw [upd_ne _ _ q]
        by_cases q2 : j ≤ i ∧ i < 186
        · rw [if_pos (by omega), if_pos q2]
        · rw [if_neg (by omega), if_neg q2]
set_option maxRecDepth 20000 in
theorem ob_canyon : Ob_canyon RR := by
  intro X XA XL Y YA h
  have hfb := fault_both h
  unfold f_X9_canyon f_X10_canyon
  rw [copy2, bN]
  rcases hfb with ⟨y1, y2, q, hq, g1, g2, g3, g4⟩ | ⟨m, s, st, en, parts, w, h', fa, la, nh, nt, gr, wi, lp, at', pl, en2, rd, rr, hm, g1, g2, -, -, -, -, s1, ⟨hcan, hlaw⟩, htl⟩
  · have n1 : ¬ y1.1 = -1 := by rw [g3]; exact nI_ne1 (by omega)
    have n2 : ¬ y2.1 = -1 := by rw [g4]; exact nI_ne1 (by omega)
    rw [g1, bN, if_neg n1, g2, bN, if_neg n2]
    exact ⟨_, _, rfl, rfl, rfl, h⟩
  · have hL := can_L13 hm at' pl en2 w h' la (YA 1) rd rr (htl rd (fun _ _ => rfl)) m 0 FU (Y 2, Y 3, Y 4, Y 5, YA 0, YA 4) (Nat.zero_add _) (by have : FU = 5000 := rfl; omega) rfl
    have hL' : f_X10_canyon_L13 (nI m) at' pl en2 w h' la (YA 1) rd rr FU 0 (Y 2) (Y 3) (Y 4) (Y 5) (YA 0) (YA 4) = _ := hL
    obtain ⟨row', k1, k2⟩ := can_L37 (nI m) s1.1 s1.2.1 s1.2.2.1 s1.2.2.2.1 at' pl en2 w h' la (YA 1) rd s1.2.2.2.2.2 rr 142 44 FU s1.2.2.2.2.1 (by decide) (by decide)
    have k1' : f_X10_canyon_L37 (nI m) s1.1 s1.2.1 s1.2.2.1 s1.2.2.2.1 at' pl en2 w h' la (YA 1) rd s1.2.2.2.2.2 rr FU 44 s1.2.2.2.2.1 = _ := k1
    obtain ⟨de, f1, f2⟩ := fillC 0 (show 36 < 4000 by decide) (XA 8)
    have A : f_X1_clear (X 17) (X 18) (XA 8) = some (0, 0, de) := by
      unfold f_X1_clear
      rw [f1, bN]
    have B : f_X10_canyon_J57 (nI m) s1.1 s1.2.1 s1.2.2.1 s1.2.2.2.1 at' pl en2 w h' la row' (YA 1) rd s1.2.2.2.2.2 rr = some (nI m, 0, nI m, s1.1, s1.2.1, s1.2.2.1, s1.2.2.2.1, at', pl, en2, w, h', la, row', upd (upd (YA 1) 0 0) 1 0, rd, s1.2.2.2.2.2, rr) := rfl
    rw [g1, bN]
    show ∃ z1 z2, (if (-1 : Int32) = -1 then (f_X2_copyFrom (X 5) (X 6) (X 7) (X 8) (X 9) (X 10) (XA 2) (XA 3) (XA 4) w h' fa la nh nt gr wi lp).bind _ else _) = some z1 ∧ _
    rw [if_pos rfl, copy2, bN, A, bN, g2, bN]
    show ∃ z1 z2, _ ∧ (if (-1 : Int32) = -1 then f_X10_canyon_L13 (nI m) at' pl en2 w h' la (YA 1) rd rr FU 0 (Y 2) (Y 3) (Y 4) (Y 5) (YA 0) (YA 4) else _) = some z2 ∧ _
    rw [if_pos rfl, hL']
    unfold f_X10_canyon_J34
    rw [k1', B]
    refine ⟨_, _, rfl, rfl, rfl, ?_⟩
    refine ⟨⟨0, by decide, rfl, rfl, fun i hi => absurd hi (Nat.not_lt_zero i)⟩, ?_, ?_, ?_, ?_, ?_⟩
    · exact RCan_cp (gr2 := cp (XA 2) gr 36) (wi2 := cp (XA 3) wi 6) (row2 := row') (o2 := 0) hcan (fun i hi => cp_lt _ _ hi) (fun i hi => cp_lt _ _ hi) (fun i hi => by rw [k2, if_neg (by omega)])
    · exact RLaw_cp (lp2 := cp (XA 4) lp 18) hlaw rfl rfl rfl rfl (fun i hi => cp_lt _ _ hi)
    · refine ⟨fun c d hc hd => ?_, ⟨0, by decide, rfl, ?_, fun i hi => absurd hi (Nat.not_lt_zero i)⟩, 0, by decide, rfl, ?_, fun i hi => absurd hi (Nat.not_lt_zero i)⟩
      · show de (6 * c + d) = row' (0 + (44 + 6 * c + d)) - row' (0 + (44 + 6 * d + c))
        rw [f2, if_pos (by omega), k2, if_pos (by omega), k2, if_pos (by omega)]
        rfl
      · show row' (0 + 80) = nI 0
        rw [k2, if_pos (by omega)]
        rfl
      · show row' (0 + 161) = nI 0
        rw [k2, if_pos (by omega)]
        rfl
    · exact ⟨rfl, Or.inl rfl⟩
    · exact ⟨rfl, Or.inl rfl⟩
end M80
