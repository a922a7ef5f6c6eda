section M55
/-! the reference follows a sound -/
theorem in_0 (x b : Int32) : f_X10_in x.toInt64 0 b.toInt64 = some (if 0 ≤ x ∧ x ≤ b then 1 else 0) := in_32 x 0 b
theorem ib0 : ib 0 558 := by decide
theorem ib1 : ib 1 558 := by decide
theorem cl0 : Int32.toNatClampNeg 0 = 0 := rfl
theorem cl1 : Int32.toNatClampNeg 1 = 1 := rfl
theorem isRockM1 {row : Nat → Int32} {a b : Nat} (ha : a ≤ 6) (hb : b ≤ 6) (h0 : row 0 = nI a) (h1 : row 1 = nI b) {i j : Nat} (hi : i < a) (hj : j < b) : f_X10_isRock row (nI i) (nI j) = some (if row (2 + (a * j + i)) = -1 then 0 else 1) := by
  have hlt : a * j + i < 36 := by
    have h2 : a * j + a ≤ a * b := by
      rw [← Nat.mul_succ]; exact Nat.mul_le_mul_left a hj
    have := mul_le36 ha hb
    omega
  have ea : 0 ≤ nI i ∧ nI i ≤ nI a - 1 := ⟨nI_le (a := 0) (by omega) (by omega), by rw [show nI a - 1 = nI (a - 1) from nI_sub' (b := 1) (by omega)]; exact nI_le (by omega) (by omega)⟩
  have eb : 0 ≤ nI j ∧ nI j ≤ nI b - 1 := ⟨nI_le (a := 0) (by omega) (by omega), by rw [show nI b - 1 = nI (b - 1) from nI_sub' (b := 1) (by omega)]; exact nI_le (by omega) (by omega)⟩
  unfold f_X10_isRock
  simp only [gd_t ib0, gd_t ib1, cl0, cl1, h0, h1, in_0, if_pos ea, if_pos eb, bS, i10, nI_mul, nI_add, isFloorM row hlt]
  by_cases h : row (2 + (a * j + i)) = -1
  · rw [if_pos h, if_pos h, i10]
  · rw [if_neg h, if_neg h, i00]
theorem isRockM0 {row : Nat → Int32} {a b : Nat} (h0 : row 0 = nI a) (h1 : row 1 = nI b) {X Y : Int32} (h : ¬ (0 ≤ X ∧ X ≤ nI a - 1) ∨ ¬ (0 ≤ Y ∧ Y ≤ nI b - 1)) : f_X10_isRock row X Y = some 0 := by
  unfold f_X10_isRock
  simp only [gd_t ib0, gd_t ib1, cl0, cl1, h0, h1, in_0, bS]
  by_cases q : 0 ≤ X ∧ X ≤ nI a - 1
  · have q2 := h.resolve_left (fun z => z q)
    rw [if_pos q, i10, if_neg q2, i00]
  · rw [if_neg q, i00]
theorem bnd {x : Int32} {a : Nat} (ha1 : 1 ≤ a) (ha : a < 2 ^ 31) (h : 0 ≤ x ∧ x ≤ nI a - 1) : ∃ i, i < a ∧ x = nI i := by
  obtain ⟨j, hj, rfl⟩ := nI_of (Int32.not_lt.mpr h.1)
  refine ⟨j, ?_, rfl⟩
  have := h.2
  rw [show nI a - 1 = nI (a - 1) from nI_sub' (b := 1) ha1, nI_leI hj (by omega)] at this
  omega
theorem isRockM_ex {row : Nat → Int32} {a b : Nat} (ha1 : 1 ≤ a) (ha : a ≤ 6) (hb1 : 1 ≤ b) (hb : b ≤ 6) (h0 : row 0 = nI a) (h1 : row 1 = nI b) (X Y : Int32) : ∃ z, f_X10_isRock row X Y = some z ∧ (z = 0 ∨ z = 1) := by
  by_cases q : 0 ≤ X ∧ X ≤ nI a - 1
  · by_cases q2 : 0 ≤ Y ∧ Y ≤ nI b - 1
    · obtain ⟨i, hi, rfl⟩ := bnd ha1 (by omega) q
      obtain ⟨j, hj, rfl⟩ := bnd hb1 (by omega) q2
      refine ⟨_, isRockM1 ha hb h0 h1 hi hj, ?_⟩
      split
      · exact Or.inl rfl
      · exact Or.inr rfl
    · exact ⟨0, isRockM0 h0 h1 (Or.inr q2), Or.inl rfl⟩
  · exact ⟨0, isRockM0 h0 h1 (Or.inl q), Or.inl rfl⟩
def okR (a b : Nat) (gr row : Nat → Int32) : Prop := row 0 = nI a ∧ row 1 = nI b ∧ ∀ i, i < 36 → row (2 + i) = gr i
theorem isRockM_w {a b : Nat} {gr row : Nat → Int32} (hR : okR a b gr row) (ha : a ≤ 6) (hb : b ≤ 6) {c w : Nat} (hc : c < a * b) (hw : w < 8) : f_X10_isRock row (nI (c % a) + colF w) (nI (c / a) + rowF w) = some (rk a b gr c w) := by
  have h36 := mul_le36 ha hb
  unfold rk
  split
  · rename_i h
    exact isRockM0 hR.1 hR.2.1 (ah_none ha hb hc hw h)
  · rename_i c' h
    obtain ⟨g1, g2, g3, g4, g5, g6, g7, g8⟩ := ah_some ha hb hc hw h
    rw [g2, g3, isRockM1 ha hb hR.1 hR.2.1 g6 g7, g8, hR.2.2 c' (by omega)]
theorem hv0 : ∀ k, k < 4 → colF (hW (2 * k + 1)) = colF (2 * k + 1) ∧ rowF (hW (2 * k + 1)) = 0 ∧ rowF (vW (2 * k + 1)) = rowF (2 * k + 1) ∧ colF (vW (2 * k + 1)) = 0 := by decide
theorem hv1 {w : Nat} (hw : w < 8) (ho : w % 2 = 1) : colF (hW w) = colF w ∧ rowF (hW w) = 0 ∧ rowF (vW w) = rowF w ∧ colF (vW w) = 0 := by
  have := hv0 (w / 2) (by omega)
  rw [show 2 * (w / 2) + 1 = w by omega] at this
  exact this
theorem J223_eq (rc : Int32 → Int32 → Int32 → Int32 → Int32 → Int32 → Int32 → Int32 → (Nat → Int32) → (Nat → Int32) → (Nat → Int32) → (Nat → Int32) → (Nat → Int32) → Option (Int32 × (Nat → Int32) × (Nat → Int32) × (Nat → Int32) × (Nat → Int32) × (Nat → Int32))) (m : Int32) (row ca ti lo tw wa : Nat → Int32) {w : Nat} (hw : w < 8) (x7 x8 x10 x11 k0 k1 k2 : Int32) {p q : Int32} (hp : f_X10_isRock row (x7 + colF w) x8 = some p) (hq : f_X10_isRock row x7 (x8 + rowF w) = some q) (p01 : p = 0 ∨ p = 1) (q01 : q = 0 ∨ q = 1) : f_X10_follow_J223 rc m row ca ti lo tw wa (colF w) (rowF w) x7 x8 x10 x11 k0 k1 k2 = rc (colF (wb w p q)) (rowF (wb w p q)) x7 x8 (k2 - k1 * k0 / 100) (x10 + 1) (x11 + 1) m ca ti lo tw wa := by
  unfold f_X10_follow_J223 f_X10_follow_J280 f_X10_follow_J281 f_X10_follow_J298 f_X10_follow_J301 f_X10_follow_J318 f_X10_follow_J321 f_X10_follow_J429
  rw [hp, bS, hq, bS]
  have : w = 0 ∨ w = 1 ∨ w = 2 ∨ w = 3 ∨ w = 4 ∨ w = 5 ∨ w = 6 ∨ w = 7 := by omega
  rcases this with h | h | h | h | h | h | h | h <;> subst h <;> rcases p01 with h | h <;> subst h <;> rcases q01 with h | h <;> subst h <;> rfl
theorem wb_even {w : Nat} (h : w % 2 = 0) (p q p' q' : Int32) : wb w p q = wb w p' q' := by
  unfold wb
  rw [if_pos (Or.inl h), if_pos (Or.inl h)]
theorem J223_w (rc : Int32 → Int32 → Int32 → Int32 → Int32 → Int32 → Int32 → Int32 → (Nat → Int32) → (Nat → Int32) → (Nat → Int32) → (Nat → Int32) → (Nat → Int32) → Option (Int32 × (Nat → Int32) × (Nat → Int32) × (Nat → Int32) × (Nat → Int32) × (Nat → Int32))) (m : Int32) {a b : Nat} {gr row : Nat → Int32} (hR : okR a b gr row) (ha1 : 1 ≤ a) (ha : a ≤ 6) (hb1 : 1 ≤ b) (hb : b ≤ 6) {c w : Nat} (hc : c < a * b) (hw : w < 8) (ca ti lo tw wa : Nat → Int32) (x10 x11 k0 k1 k2 : Int32) : f_X10_follow_J223 rc m row ca ti lo tw wa (colF w) (rowF w) (nI (c % a)) (nI (c / a)) x10 x11 k0 k1 k2 = rc (colF (wb w (rk a b gr c (hW w)) (rk a b gr c (vW w)))) (rowF (wb w (rk a b gr c (hW w)) (rk a b gr c (vW w)))) (nI (c % a)) (nI (c / a)) (k2 - k1 * k0 / 100) (x10 + 1) (x11 + 1) m ca ti lo tw wa := by
  by_cases ho : w % 2 = 1
  · obtain ⟨e1, e2, e3, e4⟩ := hv1 hw ho
    have p1 := isRockM_w hR ha hb hc (hvW w).1
    have p2 := isRockM_w hR ha hb hc (hvW w).2
    rw [e1, e2, add_0'] at p1
    rw [e3, e4, add_0'] at p2
    exact J223_eq rc m row ca ti lo tw wa hw _ _ x10 x11 k0 k1 k2 p1 p2 (rk01 _ _ _ _ _) (rk01 _ _ _ _ _)
  · obtain ⟨p, hp, p01⟩ := isRockM_ex ha1 ha hb1 hb hR.1 hR.2.1 (nI (c % a) + colF w) (nI (c / a))
    obtain ⟨q, hq, q01⟩ := isRockM_ex ha1 ha hb1 hb hR.1 hR.2.1 (nI (c % a)) (nI (c / a) + rowF w)
    rw [J223_eq rc m row ca ti lo tw wa hw _ _ x10 x11 k0 k1 k2 hp hq p01 q01, wb_even (by omega) p q (rk a b gr c (hW w)) (rk a b gr c (vW w))]
/-! the reference's rows of sounds -/
def ents (w0 : Nat) : Nat → List (Option (Nat × Nat × Nat)) → List (Nat × Nat × Nat × Nat × Nat)
  | _, [] => []
  | t, none :: r => ents w0 (t + 1) r
  | t, some v :: r => (v.1, t, v.2.1, v.2.2, w0) :: ents w0 (t + 1) r
theorem ents_len (w0 : Nat) : ∀ (P : List (Option (Nat × Nat × Nat))) (t : Nat), (ents w0 t P).length ≤ P.length := by
  intro P
  induction P with
  | nil => intro t; exact Nat.le_refl 0
  | cons e r ih =>
    intro t
    cases e with
    | none => exact Nat.le_succ_of_le (ih _)
    | some v => exact Nat.succ_le_succ (ih _)
def LayS (L : List (Nat × Nat × Nat × Nat × Nat)) (z : Int32 × (Nat → Int32) × (Nat → Int32) × (Nat → Int32) × (Nat → Int32) × (Nat → Int32)) : Prop := z.1 = nI L.length ∧ ∀ i e, L[i]? = some e → z.2.1 i = nI e.1 ∧ z.2.2.1 i = nI e.2.1 ∧ z.2.2.2.1 i = nI e.2.2.1 ∧ z.2.2.2.2.1 i = nI e.2.2.2.1 ∧ z.2.2.2.2.2 i = nI e.2.2.2.2
theorem LayS_snoc {L : List (Nat × Nat × Nat × Nat × Nat)} {m : Int32} {ca ti lo tw wa : Nat → Int32} (h : LayS L (m, ca, ti, lo, tw, wa)) (e : Nat × Nat × Nat × Nat × Nat) : LayS (L ++ [e]) (nI (L.length + 1), upd ca L.length (nI e.1), upd ti L.length (nI e.2.1), upd lo L.length (nI e.2.2.1), upd tw L.length (nI e.2.2.2.1), upd wa L.length (nI e.2.2.2.2)) := by
  refine ⟨by show nI _ = nI _; rw [List.length_append]; rfl, fun i v hv => ?_⟩
  show upd ca L.length (nI e.1) i = nI v.1 ∧ upd ti L.length (nI e.2.1) i = nI v.2.1 ∧ upd lo L.length (nI e.2.2.1) i = nI v.2.2.1 ∧ upd tw L.length (nI e.2.2.2.1) i = nI v.2.2.2.1 ∧ upd wa L.length (nI e.2.2.2.2) i = nI v.2.2.2.2
  by_cases hi : i = L.length
  · subst hi
    rw [List.getElem?_concat_length] at hv
    cases hv
    exact ⟨upd_same _ _ _, upd_same _ _ _, upd_same _ _ _, upd_same _ _ _, upd_same _ _ _⟩
  · rw [upd_ne _ _ hi, upd_ne _ _ hi, upd_ne _ _ hi, upd_ne _ _ hi, upd_ne _ _ hi]
    have hlt : i < L.length := by
      rcases Nat.lt_or_ge i L.length with q | q
      · exact q
      · rw [List.getElem?_eq_none (by rw [List.length_append]; show L.length + 1 ≤ i; omega)] at hv; cases hv
    rw [List.getElem?_append_left hlt] at hv
    exact h.2 i v hv
end M55
