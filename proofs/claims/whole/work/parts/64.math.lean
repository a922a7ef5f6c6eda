section M64
theorem ds_nI {N : Nat} {lp yl wi : Nat → Int32} (h : okL N lp yl) {L : List (Nat × Nat × Nat × Nat × Nat)} (hL : L.length ≤ 480) (p q : Nat) : ∃ m : Nat, m ≤ 47520 ∧ ds lp N L wi p q = nI m := by
  unfold ds
  split
  · exact ⟨0, by decide, rfl⟩
  · split
    · exact ⟨0, by decide, rfl⟩
    · exact fs_nI h _ hL
theorem sm_nI {F : Nat → Int32} {B : Nat} (h : ∀ q, ∃ m : Nat, m ≤ B ∧ F q = nI m) : ∀ k, ∃ m : Nat, m ≤ B * k ∧ sm F k = nI m := by
  intro k
  induction k with
  | zero => exact ⟨0, by omega, rfl⟩
  | succ k ih =>
    obtain ⟨m, h1, h2⟩ := ih
    obtain ⟨m', h3, h4⟩ := h k
    exact ⟨m + m', by rw [Nat.mul_succ]; omega, by rw [sm, h2, h4, nI_add]⟩
theorem tI_nI {nh nt : Int32} (hnt : ∃ c : Nat, 1 ≤ c ∧ c ≤ 9 ∧ nt = nI c) (hour : Int32) : ∃ t : Nat, 1 ≤ t ∧ t ≤ 9 ∧ tI nh nt hour = nI t := by
  unfold tI
  split
  · exact hnt
  · exact ⟨1, by decide, by decide, rfl⟩
theorem cs_nI {N : Nat} {lp yl wi : Nat → Int32} (h : okL N lp yl) {L : List (Nat × Nat × Nat × Nat × Nat)} (hL : L.length ≤ 480) (p : Nat) {nh nt : Int32} (hnt : ∃ c : Nat, 1 ≤ c ∧ c ≤ 9 ∧ nt = nI c) (hour : Int32) : ∃ m : Nat, m < 268435456 ∧ sm (ds lp N L wi p) 6 * tI nh nt hour = nI m := by
  obtain ⟨m, h1, h2⟩ := sm_nI (F := ds lp N L wi p) (B := 47520) (fun q => ds_nI h hL p q) 6
  obtain ⟨t, h3, h4, h5⟩ := tI_nI hnt hour
  refine ⟨m * t, ?_, by rw [h2, h5, nI_mul]⟩
  have : m * t ≤ 285120 * 9 := Nat.mul_le_mul (by omega) h4
  omega
theorem cellsC (a b : Nat) : f_X2_cells (nI a) (nI b) = some (nI (a * b)) := by
  unfold f_X2_cells
  rw [nI_mul]
theorem stand_L {a b f N : Nat} {gr wi lp row yl : Nat → Int32} (S : okSc a b f N gr wi lp row yl) {nh nt : Int32} (hnt : ∃ c : Nat, 1 ≤ c ∧ c ≤ 9 ∧ nt = nI c) (hi hour x5 : Int32) {l p : Nat} (hl1 : 1 ≤ l) (hl : l ≤ 99) (hp : p < 6) : ∀ (d k n1 n2 : Nat) (best lc lm : Int32) (marks lasting due : Nat → Int32) (m : Int32) (ca ti lo tw wa : Nat → Int32), k + d = a * b → d < n1 → d < n2 → ((best = -1 ∧ lm = 268435456 ∧ ∀ c, c < k → ¬ gr c = -1) ∨ (¬ best = -1 ∧ lc = lm)) → ∃ best' l1 l2 mk la du m' ca' ti' lo' tw' wa', f_X9_stand_L63 (nI a) (nI b) (nI f) (nI N) nh nt gr wi lp (nI p) (nI l) hi hour x5 n1 best lc (nI k) marks lasting due = f_X9_stand_J130 mk la du x5 best' l1 ∧ f_X10_stand_L36 (nI N) nh nt (nI f) row yl (nI p) (nI l) hi hour x5 n2 best lm (nI k) m ca ti lo tw wa = f_X10_stand_J105 m' ca' ti' lo' tw' wa' x5 best' l2 ∧ ((∀ c, c < a * b → ¬ gr c = -1) ∨ l1 = l2) := by
  have S' := S
  obtain ⟨ha1, ha, hb1, hb, hf, hG, hR, hwin, hLw⟩ := S'
  have h36 := mul_le36 ha hb
  intro d
  induction d with
  | zero =>
    intro k n1 n2 best lc lm marks lasting due m ca ti lo tw wa hk hn1 hn2 hrel
    obtain ⟨n1, rfl⟩ : ∃ m, n1 = m + 1 := ⟨n1 - 1, by omega⟩
    obtain ⟨n2, rfl⟩ : ∃ m, n2 = m + 1 := ⟨n2 - 1, by omega⟩
    have : k = a * b := by omega
    subst this
    refine ⟨best, lc, lm, marks, lasting, due, m, ca, ti, lo, tw, wa, ?_, ?_, ?_⟩
    · rw [f_X9_stand_L63, cellsC, bN, if_pos (nI_le (Nat.le_refl _) (by omega))]
    · rw [f_X10_stand_L36, cellsM hR.1 hR.2.1, bN, if_pos (nI_le (Nat.le_refl _) (by omega))]
    · rcases hrel with ⟨h1, h2, h3⟩ | ⟨h1, h2⟩
      · exact Or.inl h3
      · exact Or.inr h2
  | succ d ih =>
    intro k n1 n2 best lc lm marks lasting due m ca ti lo tw wa hk hn1 hn2 hrel
    obtain ⟨n1, rfl⟩ : ∃ m, n1 = m + 1 := ⟨n1 - 1, by omega⟩
    obtain ⟨n2, rfl⟩ : ∃ m, n2 = m + 1 := ⟨n2 - 1, by omega⟩
    have hkc : k < a * b := by omega
    rw [f_X9_stand_L63, cellsC, bN, if_neg (nI_ge hkc (by omega)), isFloorC gr rfl rfl ha hb hkc, bN, f_X10_stand_L36, cellsM hR.1 hR.2.1, bN, if_neg (nI_ge hkc (by omega)), isFloorM row (show k < 36 by omega), bN, hR.2.2 k (by omega)]
    unfold f_X9_stand_J124 f_X9_stand_J116 f_X10_stand_J99 f_X10_stand_J81 f_X10_stand_J97
    by_cases hg : gr k = -1
    · simp only [if_pos hg, i10]
      obtain ⟨mk, la, du, s1, -⟩ := costC S nh nt hi hour hkc hl hp marks lasting due
      obtain ⟨m2, ca2, ti2, lo2, tw2, wa2, s2, -⟩ := costM S nh nt hi hour hkc hl1 hl hp m ca ti lo tw wa
      have hW := okWy ha hb gr f hi hkc hl
      obtain ⟨v, hv1, hv2⟩ := cs_nI (nh := nh) (wi := wi) hLw (lsU480 hW) p hnt hour
      rw [s1, bN, s2, bN, hv2]
      unfold f_X9_stand_J124 f_X10_stand_J99
      simp only [st1]
      rcases hrel with ⟨h1, h2, h3⟩ | ⟨h1, h2⟩
      · rw [if_pos h1, h2, if_neg (show ¬ (268435456 : Int32) ≤ nI v from nI_ge (b := 268435456) hv1 (by decide)), if_neg (show ¬ (268435456 : Int32) ≤ nI v from nI_ge (b := 268435456) hv1 (by decide))]
        exact ih (k + 1) n1 n2 (nI k) (nI v) (nI v) mk la du m2 ca2 ti2 lo2 tw2 wa2 (by omega) (by omega) (by omega) (Or.inr ⟨nI_ne1 (by omega), rfl⟩)
      · subst h2
        rw [if_neg h1]
        by_cases q : lc ≤ nI v
        · rw [if_pos q, if_pos q, if_pos q]
          exact ih (k + 1) n1 n2 best lc lc mk la du m2 ca2 ti2 lo2 tw2 wa2 (by omega) (by omega) (by omega) (Or.inr ⟨h1, rfl⟩)
        · rw [if_neg q, if_neg q, if_neg q]
          exact ih (k + 1) n1 n2 (nI k) (nI v) (nI v) mk la du m2 ca2 ti2 lo2 tw2 wa2 (by omega) (by omega) (by omega) (Or.inr ⟨nI_ne1 (by omega), rfl⟩)
    · simp only [if_neg hg, i00, st1]
      refine ih (k + 1) n1 n2 best lc lm marks lasting due m ca ti lo tw wa (by omega) (by omega) (by omega) ?_
      rcases hrel with ⟨h1, h2, h3⟩ | h
      · refine Or.inl ⟨h1, h2, fun c hc => ?_⟩
        by_cases q : c = k
        · subst q; exact hg
        · exact h3 c (by omega)
      · exact Or.inr h
set_option maxRecDepth 20000 in
theorem ob_stand : Ob_stand RR := by
  intro X XA XL Y YA x1 x2 x3 x4 x5 hx h
  obtain ⟨a, b, f, N, S, e5, e6, e7, y5, e8, y2, y3, y4, hnt⟩ := RR_sc2 h
  have hwin := S.2.2.2.2.2.2.2.1
  unfold f_X9_stand f_X10_stand f_X10_refuses
  rw [e5, e6, e7, e8, y5, y2, y3, y4, in_01]
  rcases pcase x1 with ⟨p, hp, rfl, p1, p2⟩ | ⟨p1, p2⟩
  · rcases lcase x2 with ⟨l, hl1, hl, rfl, q1, q2⟩ | ⟨q1, q2⟩
    · rcases hcase x4 with ⟨hr, hh, rfl, t1, t2⟩ | ⟨t1, t2⟩
      · by_cases w0 : x5 < 0
        · simp only [p1, p2, q1, q2, t1, t2, bN, i10, i00, if_pos w0, if_neg (fun q : 0 ≤ x5 ∧ x5 ≤ 1 => absurd q.1 (Int32.not_le.mpr w0)), if_neg (show ¬ (0 : Int32) ≤ -3 by decide)]
          exact ⟨_, _, rfl, rfl, rfl, h⟩
        · by_cases w1 : x5 ≤ 1
          · simp only [p1, p2, q1, q2, t1, t2, bN, i10, if_neg w0, if_pos w1, if_pos (show 0 ≤ x5 ∧ x5 ≤ 1 from ⟨Int32.not_lt.mp w0, w1⟩), windowOf_nI (XA 3) hp, show (38 : Int32) + nI p = nI (38 + p) from nI_add 38 p, gd_t (ib_nI (show 38 + p < 558 by omega) (by decide)), nI_clamp (show 38 + p < 2 ^ 31 by omega), (hwin p hp).1]
            by_cases z : XA 3 p = -1
            · simp only [if_pos z, bN, if_neg (show ¬ (0 : Int32) ≤ -4 by decide)]
              exact ⟨_, _, rfl, rfl, rfl, h⟩
            · obtain ⟨c, hc, ec, gc⟩ := (hwin p hp).2.resolve_left z
              have h36 := mul_le36 S.2.1 S.2.2.2.1
              obtain ⟨best', l1, l2, mk, la, du, m', ca', ti', lo', tw', wa', s1, s2, s3⟩ := stand_L S (nh := X 9) hnt x3 (nI hr) x5 hl1 hl hp (a * b) 0 FU FU (-1) 0 268435456 (XA 35) (XA 36) (XA 39) (Y 12) (YA 6) (YA 7) (YA 8) (YA 9) (YA 10) (Nat.zero_add _) (by have : FU = 5000 := rfl; omega) (by have : FU = 5000 := rfl; omega) (Or.inl ⟨rfl, rfl, fun c hc => absurd hc (Nat.not_lt_zero c)⟩)
              have s3' : l1 = l2 := s3.resolve_left (fun y => y c hc gc)
              subst s3'
              have s1' : f_X9_stand_L63 (nI a) (nI b) (nI f) (nI N) (X 9) (X 10) (XA 2) (XA 3) (XA 4) (nI p) (nI l) x3 (nI hr) x5 FU (-1) 0 0 (XA 35) (XA 36) (XA 39) = _ := s1
              have s2' : f_X10_stand_L36 (nI N) (X 9) (X 10) (nI f) (YA 0) (YA 4) (nI p) (nI l) x3 (nI hr) x5 FU (-1) 268435456 0 (Y 12) (YA 6) (YA 7) (YA 8) (YA 9) (YA 10) = _ := s2
              simp only [if_neg z, bN, le00, s1', s2']
              unfold f_X9_stand_J130 f_X10_stand_J105
              by_cases c0 : x5 = 0
              · simp only [if_pos c0]
                exact ⟨_, _, rfl, rfl, rfl, h⟩
              · simp only [if_neg c0]
                exact ⟨_, _, rfl, rfl, rfl, h⟩
          · simp only [p1, p2, q1, q2, t1, t2, bN, i10, i00, if_neg w0, if_neg w1, if_neg (fun q : 0 ≤ x5 ∧ x5 ≤ 1 => w1 q.2), if_neg (show ¬ (0 : Int32) ≤ -3 by decide)]
            exact ⟨_, _, rfl, rfl, rfl, h⟩
      · simp only [p1, p2, q1, q2, t1, t2, bN, i10, i00, if_neg (show ¬ (0 : Int32) ≤ -3 by decide)]
        exact ⟨_, _, rfl, rfl, rfl, h⟩
    · simp only [p1, p2, q1, q2, bN, i10, i00, if_neg (show ¬ (0 : Int32) ≤ -3 by decide)]
      exact ⟨_, _, rfl, rfl, rfl, h⟩
  · simp only [p1, p2, bN, i00, if_neg (show ¬ (0 : Int32) ≤ -2 by decide)]
    exact ⟨_, _, rfl, rfl, rfl, h⟩
end M64
