section M56
theorem sub_le0' : ∀ l, l < 10 → ∀ f, f < 10 → l ≤ f → nI l - nI f ≤ (0 : Int32) := by decide
theorem L94_end (fa : Int32) (row : Nat → Int32) (x3 x4 : Int32) {n : Nat} (hn : 0 < n) (x5 x6 x7 x8 : Int32) {x9 : Int32} (h9 : x9 ≤ 0) (x10 x11 m : Int32) (ca ti lo tw wa : Nat → Int32) : f_X10_follow_L94 fa row x3 x4 n x5 x6 x7 x8 x9 x10 x11 m ca ti lo tw wa = some (m, ca, ti, lo, tw, wa) := by
  obtain ⟨n, rfl⟩ : ∃ m, n = m + 1 := ⟨n - 1, by omega⟩
  rw [f_X10_follow_L94]
  by_cases h : 61 ≤ x11
  · rw [if_pos h]
  · rw [if_neg h, if_pos h9]
theorem J202_eq {a b : Nat} {gr row : Nat → Int32} (hR : okR a b gr row) (ha1 : 1 ≤ a) (ha : a ≤ 6) (hb1 : 1 ≤ b) (hb : b ≤ 6) {c w : Nat} (hc : c < a * b) (hw : w < 8) (rc : Int32 → Int32 → Int32 → Int32 → Int32 → Int32 → Int32 → Int32 → (Nat → Int32) → (Nat → Int32) → (Nat → Int32) → (Nat → Int32) → (Nat → Int32) → Option (Int32 × (Nat → Int32) × (Nat → Int32) × (Nat → Int32) × (Nat → Int32) × (Nat → Int32))) (m : Int32) (ca ti lo tw wa : Nat → Int32) {l : Nat} (hl : l ≤ 99) (x10 x11 : Int32) {g hi : Int32} {s : Nat} (hs : s ≤ 99) (hg : g = nI s) : (if hi = 0 then f_X10_follow_J202 rc m row ca ti lo tw wa (colF w) (rowF w) (nI (c % a)) (nI (c / a)) (nI l) x10 x11 1 g else f_X10_follow_J202 rc m row ca ti lo tw wa (colF w) (rowF w) (nI (c % a)) (nI (c / a)) (nI l) x10 x11 2 g) = rc (colF (wb w (rk a b gr c (hW w)) (rk a b gr c (vW w)))) (rowF (wb w (rk a b gr c (hW w)) (rk a b gr c (vW w)))) (nI (c % a)) (nI (c / a)) (nI (lbk hi g l)) (x10 + 1) (x11 + 1) m ca ti lo tw wa := by
  have hm : ∀ t, t ≤ 100 → l * t / 100 ≤ l ∧ l * t ≤ 9900 := fun t ht => by
    have h1 : l * t ≤ l * 100 := Nat.mul_le_mul_left l ht
    omega
  have key : ∀ t, t ≤ 100 → nI l - nI l * nI t / 100 = nI (l - l * t / 100) := fun t ht => by
    rw [nI_mul, show (100 : Int32) = nI 100 from rfl, nI_div (by have := hm t ht; omega) (by decide), nI_sub' (hm t ht).1]
  unfold f_X10_follow_J202 lbk
  simp only [J223_w rc m hR ha1 ha hb1 hb hc hw, hg, sN_nI (show s < 2 ^ 31 by omega)]
  have e1 : nI s * 1 = nI s := Int32.mul_one _
  have e2 : nI s * 2 = nI (2 * s) := by rw [show (2 : Int32) = nI 2 from rfl, nI_mul, Nat.mul_comm]
  rw [e1, e2, if_pos (show nI s ≤ 100 from nI_le (b := 100) (by omega) (by decide)), key s (by omega)]
  by_cases h : hi = 0
  · rw [if_pos h, if_pos h]
  · rw [if_neg h, if_neg h]
    by_cases q : 2 * s ≤ 100
    · rw [if_pos (show nI (2 * s) ≤ 100 from nI_le (b := 100) q (by decide)), key _ q, Nat.min_eq_right q]
    · rw [if_neg (show ¬ nI (2 * s) ≤ 100 from fun z => q ((nI_leI (by omega) (by decide)).mp (show nI (2 * s) ≤ nI 100 from z))), Nat.min_eq_left (by omega), show nI l * 100 = nI l * nI 100 from rfl, key 100 (by omega)]
theorem follow_LM {a b f : Nat} {gr row : Nat → Int32} (hG : okG gr) (hR : okR a b gr row) (ha1 : 1 ≤ a) (ha : a ≤ 6) (hb1 : 1 ≤ b) (hb : b ≤ 6) (hf : f ≤ 9) (hi : Int32) {w0 : Nat} (hw0 : w0 < 8) : ∀ (d c w l th t n : Nat) (L : List (Nat × Nat × Nat × Nat × Nat)) (m : Int32) (ca ti lo tw wa : Nat → Int32), t + d = 61 → 1 ≤ t → d + 1 < n → c < a * b → w < 8 → 1 ≤ l → l ≤ 99 → L.length + d ≤ 480 → LayS L (m, ca, ti, lo, tw, wa) → ∃ z, f_X10_follow_L94 (nI f) row hi (nI w0) n (colF w) (rowF w) (nI (c % a)) (nI (c / a)) (nI l) (nI th) (nI t) m ca ti lo tw wa = some z ∧ LayS (L ++ ents w0 t (pth a b gr f hi d c w l th)) z := by
  have h36 := mul_le36 ha hb
  intro d
  induction d with
  | zero =>
    intro c w l th t n L m ca ti lo tw wa ht h1 hn hc hw hl1 hl hL hLay
    obtain ⟨n, rfl⟩ : ∃ m, n = m + 1 := ⟨n - 1, by omega⟩
    have : t = 61 := by omega
    subst this
    refine ⟨(m, ca, ti, lo, tw, wa), ?_, ?_⟩
    · rw [f_X10_follow_L94, if_pos (show (61 : Int32) ≤ nI 61 by decide)]
    · rw [pth, ents, List.append_nil]; exact hLay
  | succ d ih =>
    intro c w l th t n L m ca ti lo tw wa ht h1 hn hc hw hl1 hl hL hLay
    obtain ⟨n, rfl⟩ : ∃ m, n = m + 1 := ⟨n - 1, by omega⟩
    have hend : ∀ P, P = [] → ∃ z, some (m, ca, ti, lo, tw, wa) = some z ∧ LayS (L ++ ents w0 t P) z := fun P hP => ⟨_, rfl, by rw [hP, ents, List.append_nil]; exact hLay⟩
    rw [f_X10_follow_L94, if_neg (show ¬ (61 : Int32) ≤ nI t from nI_ge (b := 61) (by omega) (by decide)), if_neg (show ¬ nI l ≤ 0 from nI_nle (by omega) (by omega)), pth]
    simp only [gd_t ib0, gd_t ib1, cl0, cl1, hR.1, hR.2.1, in_0, bS]
    cases h : ah a b c w with
    | none =>
      have hnn := ah_none ha hb hc hw h
      by_cases q : 0 ≤ nI (c % a) + colF w ∧ nI (c % a) + colF w ≤ nI a - 1
      · have q2 := hnn.resolve_left (fun z => z q)
        simp only [if_pos q, i10, if_neg q2, i00]
        exact hend _ rfl
      · simp only [if_neg q, i00]
        exact hend _ rfl
    | some c' =>
      obtain ⟨g1, g2, g3, g4, g5, g6, g7, g8⟩ := ah_some ha hb hc hw h
      have ea : 0 ≤ nI (c' % a) ∧ nI (c' % a) ≤ nI a - 1 := ⟨nI_le (a := 0) (by omega) (by omega), by rw [show nI a - 1 = nI (a - 1) from nI_sub' (b := 1) (by omega)]; exact nI_le (by omega) (by omega)⟩
      have eb : 0 ≤ nI (c' / a) ∧ nI (c' / a) ≤ nI b - 1 := ⟨nI_le (a := 0) (Nat.zero_le _) (Nat.lt_trans g7 (by omega)), by rw [show nI b - 1 = nI (b - 1) from nI_sub' (b := 1) (by omega)]; exact nI_le (by omega) (by omega)⟩
      simp only [g2, g3, g4, g5, if_pos ea, if_pos eb, i10, gd_t ib1, gd_t ib0, isRockM1 ha hb hR.1 hR.2.1 g6 g7, g8, hR.2.2 c' (show c' < 36 by omega), bS]
      by_cases hg : gr c' = -1
      · simp only [if_pos hg, if_true]
        by_cases hlf : l ≤ f
        · simp only [if_pos (sub_le0' l (by omega) f (by omega) hlf), if_pos hlf]
          unfold f_X10_follow_J429
          rw [L94_end _ _ _ _ (show 0 < n by omega) _ _ _ _ (sub_le0' l (by omega) f (by omega) hlf)]
          exact hend _ rfl
        · have e1 : ¬ nI (l - f) ≤ 0 := nI_nle (by omega) (by omega)
          have em : m = nI L.length := hLay.1
          have ib' : ib m 480 := by rw [em]; exact ib_nI (by omega) (by decide)
          have ecl : Int32.toNatClampNeg m = L.length := by rw [em]; exact nI_clamp (by omega)
          have em1 : m + 1 = nI (L.length + 1) := by rw [em, st1]
          simp only [if_neg hlf, nI_sub' (show f ≤ l by omega), if_neg e1, gd_t ib', ecl, em1]
          unfold f_X10_follow_J429
          rw [st1]
          have hs := LayS_snoc hLay (c', t, l - f, th, w0)
          obtain ⟨z, z1, z2⟩ := ih c' w (l - f) th (t + 1) n (L ++ [(c', t, l - f, th, w0)]) _ _ _ _ _ _ (by omega) (by omega) (by omega) g1 hw (by omega) (by omega) (by rw [List.length_append]; show L.length + 1 + d ≤ 480; omega) hs
          refine ⟨z, z1, ?_⟩
          rw [ents]
          rw [List.append_assoc] at z2
          exact z2
      · have h01 : ¬ (1 : Int32) = 0 := by decide
        obtain ⟨s, hs, es⟩ := (hG c' (by omega)).resolve_left hg
        have hll := lbk_le hi (gr c') l
        simp only [if_neg hg, if_neg h01, gd_t (ib_nI (show 2 + c' < 558 by omega) (by decide)), nI_clamp (show 2 + c' < 2 ^ 31 by omega), hR.2.2 c' (show c' < 36 by omega)]
        rw [J202_eq hR ha1 ha hb1 hb hc hw _ m ca ti lo tw wa hl _ _ hs es, st1, st1]
        by_cases hl0 : lbk hi (gr c') l = 0
        · rw [if_pos hl0, L94_end _ _ _ _ (show 0 < n by omega) _ _ _ _ (show nI (lbk hi (gr c') l) ≤ 0 by rw [hl0]; decide)]
          exact hend _ rfl
        · rw [if_neg hl0]
          exact ih c (wb w (rk a b gr c (hW w)) (rk a b gr c (vW w))) (lbk hi (gr c') l) (th + 1) (t + 1) n L m ca ti lo tw wa (by omega) (by omega) (by omega) hc (wb_lt _ _ _) (by omega) (by omega) (by omega) hLay
theorem wdir {α : Type} (G : Int32 → Int32 → α) {w : Nat} (hw : w < 8) : (if nI w ≤ 0 then (if nI w ≤ 4 then (if nI w < 2 then G 0 (-1) else if nI w = 7 then G 0 (-1) else if nI w ≤ 2 then G 0 0 else if 6 ≤ nI w then G 0 0 else G 0 1) else (if nI w < 2 then G (-1) (-1) else if nI w = 7 then G (-1) (-1) else if nI w ≤ 2 then G (-1) 0 else if 6 ≤ nI w then G (-1) 0 else G (-1) 1)) else if 4 ≤ nI w then (if nI w ≤ 4 then (if nI w < 2 then G 0 (-1) else if nI w = 7 then G 0 (-1) else if nI w ≤ 2 then G 0 0 else if 6 ≤ nI w then G 0 0 else G 0 1) else (if nI w < 2 then G (-1) (-1) else if nI w = 7 then G (-1) (-1) else if nI w ≤ 2 then G (-1) 0 else if 6 ≤ nI w then G (-1) 0 else G (-1) 1)) else (if nI w < 2 then G 1 (-1) else if nI w = 7 then G 1 (-1) else if nI w ≤ 2 then G 1 0 else if 6 ≤ nI w then G 1 0 else G 1 1)) = G (colF w) (rowF w) := by
  have : w = 0 ∨ w = 1 ∨ w = 2 ∨ w = 3 ∨ w = 4 ∨ w = 5 ∨ w = 6 ∨ w = 7 := by omega
  rcases this with h | h | h | h | h | h | h | h <;> subst h <;> rfl
theorem followM_w {a f : Nat} {row : Nat → Int32} (h0 : row 0 = nI a) (ha1 : 1 ≤ a) (ha : a ≤ 6) (m : Int32) (ca ti lo tw wa : Nat → Int32) (l hi : Int32) {c w : Nat} (hc : c < 2 ^ 31) (hw : w < 8) : f_X10_follow (nI f) m row ca ti lo tw wa (nI c) l hi (nI w) = f_X10_follow_L94 (nI f) row hi (nI w) FU (colF w) (rowF w) (nI (c % a)) (nI (c / a)) l 0 1 m ca ti lo tw wa := by
  have hne : ¬ nI a = 0 := fun h => absurd ((nI_eq (by omega) (by decide)).mp (show nI a = nI 0 from h)) (by omega)
  have e63 : ∀ w dx dy, f_X10_follow_J63 (nI f) m row ca ti lo tw wa (nI c) l hi w dx dy = f_X10_follow_L94 (nI f) row hi w FU dx dy (nI (c % a)) (nI (c / a)) l 0 1 m ca ti lo tw wa := fun w dx dy => by
    unfold f_X10_follow_J63
    rw [gd_t ib0, gd_t (show ¬ row (Int32.toNatClampNeg 0) = 0 by rw [cl0, h0]; exact hne), gd_t ib0, gd_t (show ¬ row (Int32.toNatClampNeg 0) = 0 by rw [cl0, h0]; exact hne), cl0, h0, nI_rem hc (by omega), nI_div hc (by omega)]
  unfold f_X10_follow f_X10_follow_J15 f_X10_follow_J26 f_X10_follow_J41 f_X10_follow_J62
  simp only [e63]
  exact wdir (fun dx dy => f_X10_follow_L94 (nI f) row hi (nI w) FU dx dy (nI (c % a)) (nI (c / a)) l 0 1 m ca ti lo tw wa) hw
/-- all sounds, way after way -/
def lsU (W : Nat → List (Option (Nat × Nat × Nat))) : Nat → List (Nat × Nat × Nat × Nat × Nat)
  | 0 => []
  | k + 1 => lsU W k ++ ents k 1 (W k)
theorem lsU_len {W : Nat → List (Option (Nat × Nat × Nat))} (h : ∀ w, w < 8 → (W w).length ≤ 60) : ∀ k, k ≤ 8 → (lsU W k).length ≤ 60 * k := by
  intro k
  induction k with
  | zero => intro _; exact Nat.le_refl 0
  | succ k ih =>
    intro hk
    rw [lsU, List.length_append]
    have h1 := ih (by omega)
    have h2 := ents_len k (W k) 1
    have h3 := h k (by omega)
    omega
theorem laySoundsM {a b f : Nat} {gr row : Nat → Int32} (hG : okG gr) (hR : okR a b gr row) (ha1 : 1 ≤ a) (ha : a ≤ 6) (hb1 : 1 ≤ b) (hb : b ≤ 6) (hf : f ≤ 9) (hi : Int32) {c l : Nat} (hc : c < a * b) (hl1 : 1 ≤ l) (hl : l ≤ 99) (m : Int32) (ca ti lo tw wa : Nat → Int32) : ∃ z, f_X10_laySounds (nI f) m row ca ti lo tw wa (nI c) (nI l) hi = some z ∧ LayS (lsU (Wy a b gr f hi c l) 8) z := by
  have h36 := mul_le36 ha hb
  have hlen : ∀ w, w < 8 → (Wy a b gr f hi c l w).length ≤ 60 := fun w _ => pth_len _ _ _ _ _ _ _ _ _ _
  have key : ∀ (d w n : Nat) (z : Int32 × (Nat → Int32) × (Nat → Int32) × (Nat → Int32) × (Nat → Int32) × (Nat → Int32)), w + d = 8 → d < n → LayS (lsU (Wy a b gr f hi c l) w) z → ∃ z', f_X10_laySounds_L8 (nI f) row (nI c) (nI l) hi n (nI w) z.1 z.2.1 z.2.2.1 z.2.2.2.1 z.2.2.2.2.1 z.2.2.2.2.2 = some z' ∧ LayS (lsU (Wy a b gr f hi c l) 8) z' := by
    intro d
    induction d with
    | zero =>
      intro w n z hk hn hz
      obtain ⟨n, rfl⟩ : ∃ m, n = m + 1 := ⟨n - 1, by omega⟩
      have : w = 8 := by omega
      subst this
      exact ⟨z, by rw [f_X10_laySounds_L8, if_pos (show (8 : Int32) ≤ nI 8 by decide)], hz⟩
    | succ d ih =>
      intro w n z hk hn hz
      obtain ⟨n, rfl⟩ : ∃ m, n = m + 1 := ⟨n - 1, by omega⟩
      rw [f_X10_laySounds_L8, if_neg (show ¬ (8 : Int32) ≤ nI w from nI_ge (b := 8) (by omega) (by decide)), followM_w (a := a) hR.1 ha1 ha _ _ _ _ _ _ _ _ (show c < 2 ^ 31 by omega) (show w < 8 by omega)]
      have hL := lsU_len hlen w (by omega)
      obtain ⟨z', q1, q2⟩ := follow_LM hG hR ha1 ha hb1 hb hf hi (show w < 8 by omega) 60 c w l 0 1 FU (lsU (Wy a b gr f hi c l) w) z.1 z.2.1 z.2.2.1 z.2.2.2.1 z.2.2.2.2.1 z.2.2.2.2.2 (by decide) (by decide) (by decide) hc (by omega) hl1 hl (by omega) hz
      have q1' : f_X10_follow_L94 (nI f) row hi (nI w) FU (colF w) (rowF w) (nI (c % a)) (nI (c / a)) (nI l) 0 1 z.1 z.2.1 z.2.2.1 z.2.2.2.1 z.2.2.2.2.1 z.2.2.2.2.2 = some z' := q1
      rw [q1', bS, st1]
      exact ih (w + 1) n z' (by omega) (by omega) q2
  obtain ⟨z', q1, q2⟩ := key 8 0 FU (0, ca, ti, lo, tw, wa) rfl (by decide) ⟨rfl, fun i e h => by simp [lsU] at h⟩
  refine ⟨z', ?_, q2⟩
  unfold f_X10_laySounds
  exact q1
end M56
