section M63
def okSc (a b f N : Nat) (gr wi lp row yl : Nat → Int32) : Prop := 1 ≤ a ∧ a ≤ 6 ∧ 1 ≤ b ∧ b ≤ 6 ∧ f ≤ 9 ∧ okG gr ∧ okR a b gr row ∧ (∀ p, p < 6 → row (38 + p) = wi p ∧ (wi p = -1 ∨ ∃ c : Nat, c < a * b ∧ wi p = nI c ∧ gr c = -1)) ∧ okL N lp yl
theorem okSc_row {a b f N : Nat} {gr wi lp row yl row' : Nat → Int32} (S : okSc a b f N gr wi lp row yl) (e : ∀ i, i < 44 → row' i = row i) : okSc a b f N gr wi lp row' yl := by
  obtain ⟨h1, h2, h3, h4, h5, h6, ⟨h7, h8, h9⟩, h10, h11⟩ := S
  exact ⟨h1, h2, h3, h4, h5, h6, ⟨(e 0 (by omega)).trans h7, (e 1 (by omega)).trans h8, fun i hi => (e _ (by omega)).trans (h9 i hi)⟩, fun p hp => ⟨(e _ (by omega)).trans (h10 p hp).1, (h10 p hp).2⟩, h11⟩
theorem RR_sc2 {X : Nat → Int32} {XA : Nat → Nat → Int32} {Y : Nat → Int32} {YA : Nat → Nat → Int32} (h : RR X XA Y YA) : ∃ a b f N : Nat, okSc a b f N (XA 2) (XA 3) (XA 4) (YA 0) (YA 4) ∧ X 5 = nI a ∧ X 6 = nI b ∧ X 7 = nI f ∧ Y 5 = nI f ∧ X 8 = nI N ∧ Y 2 = nI N ∧ Y 3 = X 9 ∧ Y 4 = X 10 ∧ ∃ c : Nat, 1 ≤ c ∧ c ≤ 9 ∧ X 10 = nI c := by
  obtain ⟨a, b, f, ha1, ha, hb1, hb, hf, e5, e6, e7, y5, r0, r1, hG, hR, hwin⟩ := RR_sc h
  obtain ⟨ht, hc, ⟨hl1, hl2, hl3, hl4, hl5, hl6, n, hn, hl7, hl8⟩, hbk, hi1, hi2⟩ := h
  refine ⟨a, b, f, n, ⟨ha1, ha, hb1, hb, hf, hG, hR, hwin, hn, fun i hi => ?_⟩, e5, e6, e7, y5, hl7, hl2.trans hl7, hl3, hl4, hl6⟩
  obtain ⟨g1, g2, g3, g4, g5, c, g6, g7, g8⟩ := hl8 i hi
  exact ⟨g1, g2, g3, c, g7, g8⟩
def ds (lp : Nat → Int32) (N : Nat) (L : List (Nat × Nat × Nat × Nat × Nat)) (wi : Nat → Int32) (p q : Nat) : Int32 := if q = p then 0 else if wi q = -1 then 0 else fs lp N L (sN (wi q))
theorem win_c {a b : Nat} (ha : a ≤ 6) (hb : b ≤ 6) {gr wi : Nat → Int32} {q : Nat} (h : wi q = -1 ∨ ∃ c : Nat, c < a * b ∧ wi q = nI c ∧ gr c = -1) : wi q = -1 ∨ ∃ c : Nat, c < 36 ∧ wi q = nI c ∧ ¬ wi q = -1 ∧ sN (wi q) = c := by
  have h36 := mul_le36 ha hb
  rcases h with h | ⟨c, h1, h2, h3⟩
  · exact Or.inl h
  · refine Or.inr ⟨c, by omega, h2, by rw [h2]; exact nI_ne1 (by omega), by rw [h2]; exact sN_nI (by omega)⟩
theorem due_win {due wi lp : Nat → Int32} {N : Nat} {L : List (Nat × Nat × Nat × Nat × Nat)} (hd : ∀ c, c < 36 → due c = fs lp N L c) {p q : Nat} (hqp : ¬ q = p) (hw : wi q = -1 ∨ ∃ c : Nat, c < 36 ∧ wi q = nI c ∧ ¬ wi q = -1 ∧ sN (wi q) = c) : f_X0_dueAt due (wi q) = some (ds lp N L wi p q) := by
  unfold ds
  rw [if_neg hqp]
  rcases hw with h | ⟨c, h1, h2, h3, h4⟩
  · rw [if_pos h, h, dueAt_none]
  · rw [if_neg h3, h4, h2, dueAtC due h1, hd c h1]
theorem cost_L36 {a b : Nat} (ha : a ≤ 6) (hb : b ≤ 6) {gr wi lp : Nat → Int32} (hwin : ∀ p, p < 6 → wi p = -1 ∨ ∃ c : Nat, c < a * b ∧ wi p = nI c ∧ gr c = -1) (nh nt hour : Int32) (mk la : Nat → Int32) {due : Nat → Int32} {N : Nat} {L : List (Nat × Nat × Nat × Nat × Nat)} (hd : ∀ c, c < 36 → due c = fs lp N L c) {p : Nat} (hp : p < 6) : ∀ (d k n : Nat), k + d = 6 → d < n → f_X9_costFrom_L36 nh nt wi mk la due (nI p) hour n (sm (ds lp N L wi p) k) (nI k) = some (sm (ds lp N L wi p) 6 * tI nh nt hour, mk, la, due) := by
  intro d
  induction d with
  | zero =>
    intro k n hk hn
    obtain ⟨n, rfl⟩ : ∃ m, n = m + 1 := ⟨n - 1, by omega⟩
    have : k = 6 := by omega
    subst this
    rw [f_X9_costFrom_L36, if_pos (show (6 : Int32) ≤ nI 6 by decide)]
    unfold f_X9_costFrom_J76
    rw [timesInC, bN]
  | succ d ih =>
    intro k n hk hn
    obtain ⟨n, rfl⟩ : ∃ m, n = m + 1 := ⟨n - 1, by omega⟩
    have ih' := ih (k + 1) n (by omega) (by omega)
    rw [sm] at ih'
    rw [f_X9_costFrom_L36, if_neg (show ¬ (6 : Int32) ≤ nI k from nI_ge (b := 6) (by omega) (by decide))]
    unfold f_X9_costFrom_J70
    rw [st1]
    by_cases q : k = p
    · have e0 : ds lp N L wi p k = 0 := if_pos q
      rw [e0, add_0'] at ih'
      rw [if_pos (by rw [q]), ih']
    · rw [if_neg (fun z => q ((nI_eq (by omega) (by omega)).mp z)), windowOf_nI wi (show k < 6 by omega), bN, due_win hd q (win_c ha hb (hwin k (by omega))), bN, ih']
theorem costC {a b f N : Nat} {gr wi lp row yl : Nat → Int32} (S : okSc a b f N gr wi lp row yl) (nh nt hi hour : Int32) {c l p : Nat} (hc : c < a * b) (hl : l ≤ 99) (hp : p < 6) (marks lasting due : Nat → Int32) : ∃ mk la du, f_X9_costFrom (nI a) (nI b) (nI f) (nI N) nh nt gr wi lp marks lasting due (nI p) (nI c) (nI l) hi hour = some (sm (ds lp N (lsU (Wy a b gr f hi c l) 8) wi p) 6 * tI nh nt hour, mk, la, du) ∧ ∀ c', c' < 36 → du c' = fs lp N (lsU (Wy a b gr f hi c l) 8) c' := by
  obtain ⟨ha1, ha, hb1, hb, hf, hG, hR, hwin, hLw⟩ := S
  obtain ⟨mk, la, s1, hv⟩ := spreadC hG ha1 ha hb hf hi hc hl marks lasting
  obtain ⟨du, s2, hd⟩ := drawUpC ha hb (okWy ha hb gr f hi hc hl) hv hLw.1 lp due
  refine ⟨mk, la, du, ?_, hd⟩
  unfold f_X9_costFrom
  rw [s1, bN, s2, bN]
  exact cost_L36 ha hb (fun p hp => (hwin p hp).2) nh nt hour mk la hd hp 6 0 FU rfl (by decide)
theorem lsU_b2 {W : Nat → List (Option (Nat × Nat × Nat))} {a b : Nat} (ha : a ≤ 6) (hb : b ≤ 6) {gr : Nat → Int32} (hW : okW W a b gr) : ∀ e ∈ lsU W 8, e.1 < 36 ∧ e.2.2.2.1 ≤ 60 := fun e he => ⟨(lsU_b ha hb hW e he).1, (lsU_b ha hb hW e he).2.2.2.1⟩
theorem fines_win {L : List (Nat × Nat × Nat × Nat × Nat)} {m : Int32} {ca ti lo tw wa : Nat → Int32} (hL : LayS L (m, ca, ti, lo, tw, wa)) (h480 : L.length ≤ 480) (hb : ∀ e ∈ L, e.1 < 36 ∧ e.2.2.2.1 ≤ 60) {N : Nat} {lp yl : Nat → Int32} (h : okL N lp yl) (nh nt hour : Int32) {wi : Nat → Int32} {p q : Nat} (hqp : ¬ q = p) {c : Nat} (h1 : c < 36) (h2 : wi q = nI c) : f_X10_finesAt (nI N) nh nt m yl ca ti lo tw (wi q) hour = some (ds lp N L wi p q * tI nh nt hour) := by
  unfold ds
  rw [if_neg hqp, if_neg (by rw [h2]; exact nI_ne1 (by omega)), h2, sN_nI (by omega)]
  exact finesAtM hL h480 hb h nh nt hour h1
theorem cost_L14 {a b : Nat} (ha : a ≤ 6) (hb : b ≤ 6) {gr wi lp row yl : Nat → Int32} (hwin : ∀ p, p < 6 → row (38 + p) = wi p ∧ (wi p = -1 ∨ ∃ c : Nat, c < a * b ∧ wi p = nI c ∧ gr c = -1)) (nh nt hour : Int32) {N : Nat} (hLw : okL N lp yl) {L : List (Nat × Nat × Nat × Nat × Nat)} {m : Int32} {ca ti lo tw wa : Nat → Int32} (hL : LayS L (m, ca, ti, lo, tw, wa)) (h480 : L.length ≤ 480) (hbb : ∀ e ∈ L, e.1 < 36 ∧ e.2.2.2.1 ≤ 60) {p : Nat} (hp : p < 6) : ∀ (d k n : Nat), k + d = 6 → d < n → f_X10_costFrom_L14 (nI N) nh nt m row yl ca ti lo tw wa (nI p) hour n (sm (ds lp N L wi p) k * tI nh nt hour) (nI k) = some (sm (ds lp N L wi p) 6 * tI nh nt hour, m, ca, ti, lo, tw, wa) := by
  intro d
  induction d with
  | zero =>
    intro k n hk hn
    obtain ⟨n, rfl⟩ : ∃ m, n = m + 1 := ⟨n - 1, by omega⟩
    have : k = 6 := by omega
    subst this
    rw [f_X10_costFrom_L14, if_pos (show (6 : Int32) ≤ nI 6 by decide)]
  | succ d ih =>
    intro k n hk hn
    obtain ⟨n, rfl⟩ : ∃ m, n = m + 1 := ⟨n - 1, by omega⟩
    have ih' := ih (k + 1) n (by omega) (by omega)
    rw [sm, Int32.add_mul] at ih'
    rw [f_X10_costFrom_L14, if_neg (show ¬ (6 : Int32) ≤ nI k from nI_ge (b := 6) (by omega) (by decide))]
    unfold f_X10_costFrom_J62 f_X10_costFrom_J63
    simp only [show (38 : Int32) + nI k = nI (38 + k) from nI_add 38 k, gd_t (ib_nI (show 38 + k < 558 by omega) (show 558 < 2 ^ 31 by decide)), nI_clamp (show 38 + k < 2 ^ 31 by omega), (hwin k (by omega)).1, st1, add_0']
    by_cases q : k = p
    · have e0 : ds lp N L wi p k = 0 := if_pos q
      rw [e0, Int32.zero_mul, add_0'] at ih'
      rw [if_pos (by rw [q]), ih']
    · rw [if_neg (fun z => q ((nI_eq (by omega) (by omega)).mp z))]
      rcases win_c ha hb (hwin k (by omega)).2 with h | ⟨c, h1, h2, h3, h4⟩
      · have e0 : ds lp N L wi p k = 0 := by unfold ds; rw [if_neg q, if_pos h]
        rw [e0, Int32.zero_mul, add_0'] at ih'
        rw [if_pos h, ih']
      · rw [if_neg h3, fines_win hL h480 hbb hLw nh nt hour q h1 h2, bN, ih']
theorem costM {a b f N : Nat} {gr wi lp row yl : Nat → Int32} (S : okSc a b f N gr wi lp row yl) (nh nt hi hour : Int32) {c l p : Nat} (hc : c < a * b) (hl1 : 1 ≤ l) (hl : l ≤ 99) (hp : p < 6) (m0 : Int32) (ca0 ti0 lo0 tw0 wa0 : Nat → Int32) : ∃ m ca ti lo tw wa, f_X10_costFrom (nI N) nh nt (nI f) m0 row yl ca0 ti0 lo0 tw0 wa0 (nI p) (nI c) (nI l) hi hour = some (sm (ds lp N (lsU (Wy a b gr f hi c l) 8) wi p) 6 * tI nh nt hour, m, ca, ti, lo, tw, wa) ∧ LayS (lsU (Wy a b gr f hi c l) 8) (m, ca, ti, lo, tw, wa) := by
  obtain ⟨ha1, ha, hb1, hb, hf, hG, hR, hwin, hLw⟩ := S
  obtain ⟨⟨m, ca, ti, lo, tw, wa⟩, s2, hLay⟩ := laySoundsM hG hR ha1 ha hb1 hb hf hi hc hl1 hl m0 ca0 ti0 lo0 tw0 wa0
  have hW := okWy ha hb gr f hi hc hl
  refine ⟨m, ca, ti, lo, tw, wa, ?_, hLay⟩
  have key := cost_L14 ha hb hwin nh nt hour hLw hLay (lsU480 hW) (lsU_b2 ha hb hW) hp 6 0 FU rfl (by decide)
  rw [sm, Int32.zero_mul] at key
  unfold f_X10_costFrom
  rw [s2, bN]
  exact key
theorem refcase {wi row : Nat → Int32} (hw : ∀ p, p < 6 → row (38 + p) = wi p) (x1 x2 x3 : Int32) : (∃ r : Int32, ¬ r = 0 ∧ ¬ 0 ≤ r ∧ f_X9_refusalOfCry wi x1 x2 x3 = some r ∧ f_X10_refuses row x1 x2 x3 1 = some r) ∨ ∃ p l h : Nat, p < 6 ∧ 1 ≤ l ∧ l ≤ 99 ∧ h < 24 ∧ x1 = nI p ∧ x2 = nI l ∧ x3 = nI h ∧ ¬ wi p = -1 ∧ f_X9_refusalOfCry wi x1 x2 x3 = some 0 ∧ f_X10_refuses row x1 x2 x3 1 = some 0 := by
  unfold f_X9_refusalOfCry f_X10_refuses
  rcases pcase x1 with ⟨p, hp, rfl, p1, p2⟩ | ⟨p1, p2⟩
  · rcases lcase x2 with ⟨l, hl1, hl, rfl, q1, q2⟩ | ⟨q1, q2⟩
    · rcases hcase x3 with ⟨h, hh, rfl, t1, t2⟩ | ⟨t1, t2⟩
      · simp only [p1, p2, q1, q2, t1, t2, bN, i10, windowOf_nI wi hp, show (38 : Int32) + nI p = nI (38 + p) from nI_add 38 p, gd_t (ib_nI (show 38 + p < 558 by omega) (by decide)), nI_clamp (show 38 + p < 2 ^ 31 by omega), hw p hp]
        by_cases z : wi p = -1
        · simp only [if_pos z]
          exact Or.inl ⟨-4, by decide, by decide, rfl, rfl⟩
        · simp only [if_neg z]
          exact Or.inr ⟨p, l, h, hp, hl1, hl, hh, rfl, rfl, rfl, z, by first | trivial | rfl, by first | trivial | rfl⟩
      · simp only [p1, p2, q1, q2, t1, t2, bN, i10, i00]
        exact Or.inl ⟨-3, by decide, by decide, rfl, rfl⟩
    · simp only [p1, p2, q1, q2, bN, i10, i00]
      exact Or.inl ⟨-3, by decide, by decide, rfl, rfl⟩
  · simp only [p1, p2, bN, i00]
    exact Or.inl ⟨-2, by decide, by decide, rfl, rfl⟩
theorem le00 {α : Type} (x y : α) : (if (0 : Int32) ≤ 0 then x else y) = x := if_pos (by decide)
set_option maxRecDepth 20000 in
theorem ob_costs : Ob_costs RR := by
  intro X XA XL Y YA x1 x2 x3 x4 hx h
  obtain ⟨a, b, f, N, S, e5, e6, e7, y5, e8, y2, y3, y4, -⟩ := RR_sc2 h
  have hwin := S.2.2.2.2.2.2.2.1
  unfold f_X9_costs f_X10_costs
  rw [e5, e6, e7, e8, y5, y2, y3, y4]
  rcases refcase (fun p hp => (hwin p hp).1) x1 x2 x4 with ⟨r, r1, r2, q1, q2⟩ | ⟨p, l, hr, hp, hl1, hl, hh, rfl, rfl, rfl, hz, q1, q2⟩
  · simp only [q1, q2, bN, if_neg r1, if_neg r2]
    exact ⟨_, _, rfl, rfl, rfl, h⟩
  · obtain ⟨c, hc, ec, -⟩ := (hwin p hp).2.resolve_left hz
    obtain ⟨mk, la, du, s1, -⟩ := costC S (X 9) (X 10) x3 (nI hr) hc hl hp (XA 35) (XA 36) (XA 39)
    obtain ⟨m, ca, ti, lo, tw, wa, s2, -⟩ := costM S (X 9) (X 10) x3 (nI hr) hc hl1 hl hp (Y 12) (YA 6) (YA 7) (YA 8) (YA 9) (YA 10)
    simp only [q1, q2, bN, if_pos, le00, windowOf_nI (XA 3) hp, show (38 : Int32) + nI p = nI (38 + p) from nI_add 38 p, gd_t (ib_nI (show 38 + p < 558 by omega) (by decide)), nI_clamp (show 38 + p < 2 ^ 31 by omega), (hwin p hp).1, ec, s1, s2]
    exact ⟨_, _, rfl, rfl, rfl, h⟩
end M63
