section M54
def Mk (w0 t : Nat) (P : List (Option (Nat × Nat × Nat))) (marks marks' : Nat → Int32) : Prop := (∀ i e, P[i]? = some e → marks' (60 * w0 + (t - 1) + i) = enc e) ∧ ∀ j, (j < 60 * w0 + (t - 1) ∨ 60 * w0 + 60 ≤ j) → marks' j = marks j
theorem Mk_nil (w0 t : Nat) (marks : Nat → Int32) : Mk w0 t [] marks marks := ⟨fun i e h => by simp at h, fun _ _ => rfl⟩
theorem Mk_cons {w0 t : Nat} (h1 : 1 ≤ t) (h60 : t ≤ 60) {e : Option (Nat × Nat × Nat)} {P : List (Option (Nat × Nat × Nat))} {marks marks' : Nat → Int32} (h : Mk w0 (t + 1) P (upd marks (60 * w0 + (t - 1)) (enc e)) marks') : Mk w0 t (e :: P) marks marks' := by
  obtain ⟨p1, p2⟩ := h
  refine ⟨fun i v hv => ?_, fun j hj => ?_⟩
  · cases i with
    | zero =>
      have : e = v := by simpa using hv
      subst this
      have q := p2 (60 * w0 + (t - 1)) (Or.inl (by omega))
      rw [upd_same] at q
      exact q
    | succ i =>
      have q := p1 i v (by simpa using hv)
      rw [show 60 * w0 + (t - 1) + (i + 1) = 60 * w0 + (t + 1 - 1) + i by omega]
      exact q
  · rw [p2 j (by omega), upd_ne _ _ (by omega)]
theorem sub_le0 : ∀ l, l < 10 → ∀ f, f < 10 → l ≤ f → ¬ (1 : Int32) ≤ nI l - nI f := by decide
theorem ix60 {w t : Nat} (h1 : 1 ≤ t) : nI w * 60 + nI t - 1 = nI (60 * w + (t - 1)) := by
  rw [show (60 : Int32) = nI 60 from rfl, nI_mul, nI_add, show (1 : Int32) = nI 1 from rfl, nI_sub' (by omega)]
  congr 1
  omega
theorem nI_ne1 {c : Nat} (h : c < 2 ^ 31) : ¬ nI c = -1 := fun e => by
  have := nI_toInt h
  rw [e] at this
  have h2 : (-1 : Int32).toInt = -1 := by decide
  omega
theorem follow_L {a b f : Nat} {gr : Nat → Int32} (hG : okG gr) (ha1 : 1 ≤ a) (ha : a ≤ 6) (hb : b ≤ 6) (hf : f ≤ 9) (hi : Int32) {w0 : Nat} (hw0 : w0 < 8) : ∀ (d c w l th t n : Nat) (marks : Nat → Int32), t + d = 61 → 1 ≤ t → d < n → c < a * b → w < 8 → l ≤ 99 → th + d ≤ 60 → ∃ marks', f_X8_follow_L16 (nI a) (nI b) (nI f) gr (nI w0) hi n (nI w) (nI c) (nI l) (nI th) (nI t) marks = some (nI (t - 1 + (pth a b gr f hi d c w l th).length), marks') ∧ Mk w0 t (pth a b gr f hi d c w l th) marks marks' := by
  have h36 := mul_le36 ha hb
  intro d
  induction d with
  | zero =>
    intro c w l th t n marks ht h1 hn hc hw hl hth
    obtain ⟨n, rfl⟩ : ∃ m, n = m + 1 := ⟨n - 1, by omega⟩
    have : t = 61 := by omega
    subst this
    refine ⟨marks, ?_, Mk_nil _ _ _⟩
    rw [f_X8_follow_L16, if_pos (show (60 : Int32) < nI 61 by decide)]
    rfl
  | succ d ih =>
    intro c w l th t n marks ht h1 hn hc hw hl hth
    obtain ⟨n, rfl⟩ : ∃ m, n = m + 1 := ⟨n - 1, by omega⟩
    have eend : nI t - 1 = nI (t - 1 + 0) := nI_sub' (b := 1) h1
    rw [f_X8_follow_L16, if_neg (show ¬ (60 : Int32) < nI t from fun q => absurd ((nI_ltI (a := 60) (by decide) (by omega)).mp q) (by omega)), ah_C ha hb hc hw, bS, pth]
    unfold f_X8_follow_J42 f_X8_follow_J108 f_X8_follow_J114
    cases h : ah a b c w with
    | none =>
      refine ⟨marks, ?_, Mk_nil _ _ _⟩
      simp only [oI, if_true, List.length_nil]
      rw [eend]
    | some c' =>
      have hc' := (ah_some ha hb hc hw h).1
      simp only [oI, if_neg (nI_ne1 (show c' < 2 ^ 31 by omega)), isRockC gr rfl rfl ha hb hc', bS]
      by_cases hg : gr c' = -1
      · simp only [if_pos hg, if_true]
        by_cases hlf : l ≤ f
        · have e1 : ¬ (1 : Int32) ≤ nI l - nI f := sub_le0 l (by omega) f (by omega) hlf
          simp only [f_X8_soundFrom, bS, if_neg e1, if_pos hlf]
          refine ⟨marks, ?_, Mk_nil _ _ _⟩
          rw [eend]; rfl
        · have e1 : (1 : Int32) ≤ nI (l - f) := nI_le (a := 1) (by omega) (by omega)
          simp only [if_neg hlf, nI_sub' (show f ≤ l by omega), soundFrom_nI (show c' < 36 by omega) (show l - f < 128 by omega) (show th ≤ 120 by omega), bS, if_pos e1, ix60 h1, gd_t (ib_nI (show 60 * w0 + (t - 1) < 480 by omega) (by decide)), nI_clamp (show 60 * w0 + (t - 1) < 2 ^ 31 by omega), st1]
          obtain ⟨m', q1, q2⟩ := ih c' w (l - f) th (t + 1) n (upd marks (60 * w0 + (t - 1)) (enc (some (c', l - f, th)))) (by omega) (by omega) (by omega) hc' hw (by omega) (by omega)
          refine ⟨m', ?_, Mk_cons h1 (by omega) q2⟩
          rw [q1, List.length_cons]
          congr 2
          congr 1
          omega
      · have h01 : ¬ (1 : Int32) = 0 := by decide
        have hll := lbk_le hi (gr c') l
        simp only [if_neg hg, if_neg h01, loudBackC hG ha hb hc' hg hl, wayBackC gr ha1 ha hb hc hw, bS]
        by_cases hl0 : lbk hi (gr c') l = 0
        · have e1 : ¬ (1 : Int32) ≤ nI (lbk hi (gr c') l) := by rw [hl0]; decide
          simp only [if_neg e1, if_pos hl0]
          refine ⟨marks, ?_, Mk_nil _ _ _⟩
          rw [eend]; rfl
        · have e1 : (1 : Int32) ≤ nI (lbk hi (gr c') l) := nI_le (a := 1) (by omega) (by omega)
          simp only [if_neg hl0, if_pos e1, ix60 h1, gd_t (ib_nI (show 60 * w0 + (t - 1) < 480 by omega) (by decide)), nI_clamp (show 60 * w0 + (t - 1) < 2 ^ 31 by omega), st1]
          obtain ⟨m', q1, q2⟩ := ih c (wb w (rk a b gr c (hW w)) (rk a b gr c (vW w))) (lbk hi (gr c') l) (th + 1) (t + 1) n (upd marks (60 * w0 + (t - 1)) (enc none)) (by omega) (by omega) (by omega) hc (wb_lt _ _ _) (by omega) (by omega)
          refine ⟨m', ?_, Mk_cons h1 (by omega) q2⟩
          have q1' := q1
          rw [show enc none = 0 from rfl] at q1'
          rw [q1', List.length_cons]
          congr 2
          congr 1
          omega
/-- the sounds of one way -/
def Wy (a b : Nat) (gr : Nat → Int32) (f : Nat) (hi : Int32) (c l w : Nat) : List (Option (Nat × Nat × Nat)) := pth a b gr f hi 60 c w l 0
def Wv (W : Nat → List (Option (Nat × Nat × Nat))) (N : Nat) (marks lasting : Nat → Int32) : Prop := ∀ w, w < N → lasting w = nI (W w).length ∧ (W w).length ≤ 60 ∧ ∀ i e, (W w)[i]? = some e → marks (60 * w + i) = enc e
theorem spread_L {a b f : Nat} {gr : Nat → Int32} (hG : okG gr) (ha1 : 1 ≤ a) (ha : a ≤ 6) (hb : b ≤ 6) (hf : f ≤ 9) (hi : Int32) {c l : Nat} (hc : c < a * b) (hl : l ≤ 99) : ∀ (d w n : Nat) (marks lasting : Nat → Int32), w + d = 8 → d < n → Wv (Wy a b gr f hi c l) w marks lasting → ∃ marks' lasting', f_X8_spread_L3 (nI a) (nI b) (nI f) gr (nI c) (nI l) hi n (nI w) marks lasting = some (marks', lasting') ∧ Wv (Wy a b gr f hi c l) 8 marks' lasting' := by
  intro d
  induction d with
  | zero =>
    intro w n marks lasting hk hn hv
    obtain ⟨n, rfl⟩ : ∃ m, n = m + 1 := ⟨n - 1, by omega⟩
    have : w = 8 := by omega
    subst this
    refine ⟨marks, lasting, ?_, hv⟩
    rw [f_X8_spread_L3, if_pos (show (8 : Int32) ≤ nI 8 by decide)]
  | succ d ih =>
    intro w n marks lasting hk hn hv
    obtain ⟨n, rfl⟩ : ∃ m, n = m + 1 := ⟨n - 1, by omega⟩
    obtain ⟨m', q1, q2, q3⟩ := follow_L hG ha1 ha hb hf hi (show w < 8 by omega) 60 c w l 0 1 FU marks (by decide) (by decide) (by decide) hc (by omega) hl (by decide)
    have q1' : f_X8_follow marks (nI a) (nI b) (nI f) gr (nI w) (nI c) (nI l) hi = some (nI (0 + (Wy a b gr f hi c l w).length), m') := q1
    rw [f_X8_spread_L3, if_neg (show ¬ (8 : Int32) ≤ nI w from nI_ge (b := 8) (by omega) (by decide)), q1', bS, gd_t (ib_nI (show w < 8 by omega) (by decide)), st1, nI_clamp (by omega), Nat.zero_add]
    refine ih (w + 1) n m' _ (by omega) (by omega) (fun v hv' => ?_)
    by_cases e : v = w
    · subst e
      exact ⟨upd_same _ _ _, pth_len _ _ _ _ _ _ _ _ _ _, fun i e he => q2 i e he⟩
    · obtain ⟨r1, r2, r3⟩ := hv v (by omega)
      refine ⟨(upd_ne _ _ e).trans r1, r2, fun i x he => ?_⟩
      have hi' : i < (Wy a b gr f hi c l v).length := by
        rcases Nat.lt_or_ge i (Wy a b gr f hi c l v).length with q | q
        · exact q
        · rw [List.getElem?_eq_none q] at he; cases he
      rw [q3 _ (by omega)]
      exact r3 i x he
theorem spreadC {a b f : Nat} {gr : Nat → Int32} (hG : okG gr) (ha1 : 1 ≤ a) (ha : a ≤ 6) (hb : b ≤ 6) (hf : f ≤ 9) (hi : Int32) {c l : Nat} (hc : c < a * b) (hl : l ≤ 99) (marks lasting : Nat → Int32) : ∃ marks' lasting', f_X8_spread marks lasting (nI a) (nI b) (nI f) gr (nI c) (nI l) hi = some (marks', lasting') ∧ Wv (Wy a b gr f hi c l) 8 marks' lasting' := spread_L hG ha1 ha hb hf hi hc hl 8 0 FU marks lasting rfl (by decide) (fun w hw => absurd hw (Nat.not_lt_zero w))
end M54
