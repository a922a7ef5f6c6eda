section M58
theorem okS_b {a b : Nat} (ha : a ≤ 6) (hb : b ≤ 6) {gr : Nat → Int32} {v : Nat × Nat × Nat} (h : okS a b gr 60 v) : v.1 < 36 ∧ v.2.1 < 128 ∧ v.2.2 ≤ 120 := by
  have h36 := mul_le36 ha hb
  obtain ⟨h1, h2, h3, h4, h5⟩ := h
  exact ⟨by omega, by omega, by omega⟩
theorem get_ok {W : Nat → List (Option (Nat × Nat × Nat))} {a b : Nat} (ha : a ≤ 6) (hb : b ≤ 6) {gr : Nat → Int32} (hW : okW W a b gr) {w i : Nat} (hw : w < 8) {v : Nat × Nat × Nat} (h : (W w)[i]? = some (some v)) : v.1 < 36 ∧ v.2.1 < 128 ∧ v.2.2 ≤ 120 := okS_b ha hb ((hW w hw).2 v (mem_of_get h))
def gCo (to x2 : Int32) (s : Int32) (e : Nat × Nat × Nat × Nat × Nat) : Int32 := if nI e.1 = to then (if nI e.2.2.2.1 < x2 then s else s + 1) else s
theorem comingToC {W : Nat → List (Option (Nat × Nat × Nat))} {a b : Nat} (ha : a ≤ 6) (hb : b ≤ 6) {gr : Nat → Int32} (hW : okW W a b gr) {marks lasting : Nat → Int32} (hv : Wv W 8 marks lasting) {j : Nat} (hj : j < 36) (x2 : Int32) : f_X8_comingTo marks lasting (nI j) x2 = some ((lsU W 8).foldl (gCo (nI j) x2) 0) := by
  refine g_out W (gCo (nI j) x2) (fun n s x => f_X8_comingTo_L5 marks lasting (nI j) x2 n s x) (fun s => some s) (fun n s => ?_) (fun n s w hw => ?_) 8 0 FU 0 rfl (by decide)
  · rw [f_X8_comingTo_L5, if_pos (show (8 : Int32) ≤ nI 8 by decide)]
  · have hl := (hv w hw).1
    have h60 := (hv w hw).2.1
    rw [f_X8_comingTo_L5, if_neg (show ¬ (8 : Int32) ≤ nI w from nI_ge (b := 8) hw (by decide))]
    refine (g_in w (W w) (gCo (nI j) x2) (fun n' s' x => f_X8_comingTo_L15 (f_X8_comingTo_L5 marks lasting (nI j) x2 n) marks lasting (nI j) x2 (nI w) n' s' x) (fun s' => f_X8_comingTo_L5 marks lasting (nI j) x2 n s' (nI (w + 1))) (fun n' s' => ?_) (fun n' s' i e he => ?_) (W w).length 0 FU s (Nat.zero_add _) (by have : FU = 5000 := rfl; omega))
    · rw [f_X8_comingTo_L15, gd_t (ib_nI hw (by decide)), nI_clamp (by omega), hl, if_pos (nI_lt (by omega) (by omega))]
      unfold f_X8_comingTo_J64
      rw [st1]
    · have hi := lt_of_get he
      rw [f_X8_comingTo_L15, gd_t (ib_nI hw (by decide)), nI_clamp (by omega), hl, if_neg (show ¬ nI (W w).length < nI (i + 1) from fun q => absurd ((nI_ltI (by omega) (by omega)).mp q) (by omega)), soundOf_i hv hw he, bS]
      unfold f_X8_comingTo_J58
      rw [st1]
      cases e with
      | none =>
        rw [cellOf_0, bS, if_neg (fun q => nI_ne1 (show j < 2 ^ 31 by omega) q.symm)]
        rfl
      | some v =>
        obtain ⟨o1, o2, o3⟩ := get_ok ha hb hW hw he
        rw [cellOf_enc o1 o2 o3, bS, thrownOf_enc o1 o2 o3, bS]
        show _ = f_X8_comingTo_L15 _ _ _ _ _ _ n' (if nI v.1 = nI j then (if nI v.2.2 < x2 then s' else s' + 1) else s') _
        by_cases q1 : nI v.1 = nI j
        · rw [if_pos q1, if_pos q1]
          by_cases q2 : nI v.2.2 < x2
          · rw [if_pos q2, if_pos q2]
          · rw [if_neg q2, if_neg q2]
        · rw [if_neg q1, if_neg q1]
def gGr (to : Int32) (s : Int32) (e : Nat × Nat × Nat × Nat × Nat) : Int32 := if nI e.1 = to then (if s < nI e.2.2.1 then nI e.2.2.1 else s) else s
theorem greatestC {W : Nat → List (Option (Nat × Nat × Nat))} {a b : Nat} (ha : a ≤ 6) (hb : b ≤ 6) {gr : Nat → Int32} (hW : okW W a b gr) {marks lasting : Nat → Int32} (hv : Wv W 8 marks lasting) {j : Nat} (hj : j < 36) : f_X8_greatestLoudAt marks lasting (nI j) = some ((lsU W 8).foldl (gGr (nI j)) (-1)) := by
  refine g_out W (gGr (nI j)) (fun n s x => f_X8_greatestLoudAt_L4 marks lasting (nI j) n s x) (fun s => some s) (fun n s => ?_) (fun n s w hw => ?_) 8 0 FU (-1) rfl (by decide)
  · rw [f_X8_greatestLoudAt_L4, if_pos (show (8 : Int32) ≤ nI 8 by decide)]
  · have hl := (hv w hw).1
    have h60 := (hv w hw).2.1
    rw [f_X8_greatestLoudAt_L4, if_neg (show ¬ (8 : Int32) ≤ nI w from nI_ge (b := 8) hw (by decide))]
    refine (g_in w (W w) (gGr (nI j)) (fun n' s' x => f_X8_greatestLoudAt_L13 (f_X8_greatestLoudAt_L4 marks lasting (nI j) n) marks lasting (nI j) (nI w) n' s' x) (fun s' => f_X8_greatestLoudAt_L4 marks lasting (nI j) n s' (nI (w + 1))) (fun n' s' => ?_) (fun n' s' i e he => ?_) (W w).length 0 FU s (Nat.zero_add _) (by have : FU = 5000 := rfl; omega))
    · rw [f_X8_greatestLoudAt_L13, gd_t (ib_nI hw (by decide)), nI_clamp (by omega), hl, if_pos (nI_lt (by omega) (by omega))]
      unfold f_X8_greatestLoudAt_J58
      rw [st1]
    · have hi := lt_of_get he
      rw [f_X8_greatestLoudAt_L13, gd_t (ib_nI hw (by decide)), nI_clamp (by omega), hl, if_neg (show ¬ nI (W w).length < nI (i + 1) from fun q => absurd ((nI_ltI (by omega) (by omega)).mp q) (by omega)), soundOf_i hv hw he, bS]
      unfold f_X8_greatestLoudAt_J52
      rw [st1]
      cases e with
      | none =>
        rw [cellOf_0, bS, if_neg (fun q => nI_ne1 (show j < 2 ^ 31 by omega) q.symm)]
        rfl
      | some v =>
        obtain ⟨o1, o2, o3⟩ := get_ok ha hb hW hw he
        rw [cellOf_enc o1 o2 o3, bS, loudOf_enc o1 o2 o3, bS]
        show _ = f_X8_greatestLoudAt_L13 _ _ _ _ _ n' (if nI v.1 = nI j then (if s' < nI v.2.1 then nI v.2.1 else s') else s') _
        by_cases q1 : nI v.1 = nI j
        · rw [if_pos q1, if_pos q1]
        · rw [if_neg q1, if_neg q1]
/-- the first tick at which something comes -/
def isFirst (W : Nat → List (Option (Nat × Nat × Nat))) (to : Nat) (r : Int32) : Prop := (r = -1 ∧ ∀ w t v, w < 8 → 1 ≤ t → sp W w t = some v → v.1 ≠ to) ∨ ∃ t, r = nI t ∧ 1 ≤ t ∧ t ≤ 60 ∧ (∃ w v, w < 8 ∧ sp W w t = some v ∧ v.1 = to) ∧ ∀ w t' v, w < 8 → 1 ≤ t' → t' < t → sp W w t' = some v → v.1 ≠ to
theorem isFirst_eq {W : Nat → List (Option (Nat × Nat × Nat))} {to : Nat} {r r' : Int32} (h : isFirst W to r) (h' : isFirst W to r') : r = r' := by
  rcases h with ⟨h1, h2⟩ | ⟨t, h1, h2, h3, ⟨w, v, h4, h5, h6⟩, h7⟩ <;> rcases h' with ⟨k1, k2⟩ | ⟨t', k1, k2, k3, ⟨w', v', k4, k5, k6⟩, k7⟩
  · rw [h1, k1]
  · exact absurd k6 (h2 w' t' v' k4 k2 k5)
  · exact absurd h6 (k2 w t v h4 h2 h5)
  · have : t = t' := by
      rcases Nat.lt_trichotomy t t' with q | q | q
      · exact absurd h6 (k7 w t v h4 h2 q h5)
      · exact q
      · exact absurd k6 (h7 w' t' v' k4 k2 q k5)
    rw [h1, k1, this]
theorem first_L10 {W : Nat → List (Option (Nat × Nat × Nat))} {a b : Nat} (ha : a ≤ 6) (hb : b ≤ 6) {gr : Nat → Int32} (hW : okW W a b gr) {marks lasting : Nat → Int32} (hv : Wv W 8 marks lasting) {j : Nat} (hj : j < 36) (rc : Int32 → Option Int32) {t : Nat} (h1 : 1 ≤ t) (h60 : t ≤ 60) : ∀ (d w n : Nat), w + d = 8 → d < n → (∀ w', w' < w → ∀ v, sp W w' t = some v → v.1 ≠ j) → (f_X8_firstTickAt_L10 rc marks lasting (nI j) (nI t) n (nI w) = some (nI t) ∧ ∃ w v, w < 8 ∧ sp W w t = some v ∧ v.1 = j) ∨ (f_X8_firstTickAt_L10 rc marks lasting (nI j) (nI t) n (nI w) = rc (nI (t + 1)) ∧ ∀ w', w' < 8 → ∀ v, sp W w' t = some v → v.1 ≠ j) := by
  intro d
  induction d with
  | zero =>
    intro w n hk hn hx
    obtain ⟨n, rfl⟩ : ∃ m, n = m + 1 := ⟨n - 1, by omega⟩
    have : w = 8 := by omega
    subst this
    refine Or.inr ⟨?_, hx⟩
    rw [f_X8_firstTickAt_L10, if_pos (show (8 : Int32) ≤ nI 8 by decide)]
    unfold f_X8_firstTickAt_J37
    rw [st1]
  | succ d ih =>
    intro w n hk hn hx
    obtain ⟨n, rfl⟩ : ∃ m, n = m + 1 := ⟨n - 1, by omega⟩
    have hw : w < 8 := by omega
    rw [f_X8_firstTickAt_L10, if_neg (show ¬ (8 : Int32) ≤ nI w from nI_ge (b := 8) hw (by decide)), soundOf_sp hv hw h1 h60, bS, st1]
    cases e : sp W w t with
    | none =>
      rw [cellOf_0, bS, if_neg (fun q => nI_ne1 (show j < 2 ^ 31 by omega) q.symm)]
      refine ih (w + 1) n (by omega) (by omega) (fun w' hw' v hv' => ?_)
      by_cases q : w' = w
      · subst q; rw [e] at hv'; cases hv'
      · exact hx w' (by omega) v hv'
    | some v =>
      obtain ⟨o1, o2, o3⟩ := okS_b ha hb (sp_ok hW hw e h1).1
      rw [cellOf_enc o1 o2 o3, bS]
      by_cases q1 : v.1 = j
      · rw [if_pos (by rw [q1])]
        exact Or.inl ⟨rfl, w, v, hw, e, q1⟩
      · rw [if_neg (fun q => q1 ((nI_eq (by omega) (by omega)).mp q))]
        refine ih (w + 1) n (by omega) (by omega) (fun w' hw' v' hv' => ?_)
        by_cases q : w' = w
        · subst q; rw [e] at hv'; cases hv'; exact q1
        · exact hx w' (by omega) v' hv'
theorem first_L2 {W : Nat → List (Option (Nat × Nat × Nat))} {a b : Nat} (ha : a ≤ 6) (hb : b ≤ 6) {gr : Nat → Int32} (hW : okW W a b gr) {marks lasting : Nat → Int32} (hv : Wv W 8 marks lasting) {j : Nat} (hj : j < 36) : ∀ (d t n : Nat), t + d = 61 → 1 ≤ t → d < n → (∀ w t' v, w < 8 → 1 ≤ t' → t' < t → sp W w t' = some v → v.1 ≠ j) → ∃ r, f_X8_firstTickAt_L2 marks lasting (nI j) n (nI t) = some r ∧ isFirst W j r := by
  intro d
  induction d with
  | zero =>
    intro t n hk h1 hn hx
    obtain ⟨n, rfl⟩ : ∃ m, n = m + 1 := ⟨n - 1, by omega⟩
    have : t = 61 := by omega
    subst this
    refine ⟨-1, by rw [f_X8_firstTickAt_L2, if_pos (show (60 : Int32) < nI 61 by decide)], Or.inl ⟨rfl, fun w t v hw ht hs => ?_⟩⟩
    exact hx w t v hw ht (by have := (sp_ok hW hw hs ht).2; omega) hs
  | succ d ih =>
    intro t n hk h1 hn hx
    obtain ⟨n, rfl⟩ : ∃ m, n = m + 1 := ⟨n - 1, by omega⟩
    rw [f_X8_firstTickAt_L2, if_neg (show ¬ (60 : Int32) < nI t from fun q => absurd ((nI_ltI (a := 60) (by decide) (by omega)).mp q) (by omega))]
    rcases first_L10 ha hb hW hv hj (f_X8_firstTickAt_L2 marks lasting (nI j) n) h1 (show t ≤ 60 by omega) 8 0 FU rfl (by decide) (fun w' hw' => absurd hw' (Nat.not_lt_zero w')) with ⟨q1, q2⟩ | ⟨q1, q2⟩
    · exact ⟨nI t, q1, Or.inr ⟨t, rfl, h1, by omega, q2, hx⟩⟩
    · have q1' : f_X8_firstTickAt_L10 (f_X8_firstTickAt_L2 marks lasting (nI j) n) marks lasting (nI j) (nI t) FU 0 = _ := q1
      rw [q1']
      refine ih (t + 1) n (by omega) (by omega) (by omega) (fun w t' v hw ht1 ht2 hs => ?_)
      by_cases q : t' = t
      · subst q; exact q2 w hw v hs
      · exact hx w t' v hw ht1 (by omega) hs
def gFi (to : Int32) (s : Int32) (e : Nat × Nat × Nat × Nat × Nat) : Int32 := if nI e.1 = to then (if s = -1 then nI e.2.1 else if s ≤ nI e.2.1 then s else nI e.2.1) else s
/-- the least tick of a list -/
def isFst (L : List (Nat × Nat × Nat × Nat × Nat)) (to : Nat) (r : Int32) : Prop := (r = -1 ∧ ∀ e ∈ L, e.1 ≠ to) ∨ ∃ t, r = nI t ∧ (∃ e ∈ L, e.1 = to ∧ e.2.1 = t) ∧ ∀ e ∈ L, e.1 = to → t ≤ e.2.1
theorem gFi_fst {to : Nat} (hto : to < 36) : ∀ (L M : List (Nat × Nat × Nat × Nat × Nat)) (s : Int32), (∀ e ∈ M ++ L, e.1 < 36 ∧ e.2.1 ≤ 60) → isFst M to s → isFst (M ++ L) to (L.foldl (gFi (nI to)) s) := by
  intro L
  induction L with
  | nil => intro M s _ h; rw [List.append_nil]; exact h
  | cons e r ih =>
    intro M s hb h
    rw [show M ++ e :: r = (M ++ [e]) ++ r by simp]
    have he := hb e (by simp)
    refine ih (M ++ [e]) _ (fun x hx => hb x (by simpa using hx)) ?_
    unfold gFi
    by_cases q : e.1 = to
    · rw [if_pos (by rw [q])]
      rcases h with ⟨h1, h2⟩ | ⟨t, h1, ⟨x, hx1, hx2, hx3⟩, h3⟩
      · rw [if_pos h1]
        refine Or.inr ⟨e.2.1, rfl, ⟨e, by simp, q, rfl⟩, fun x hx hxt => ?_⟩
        rcases List.mem_append.mp hx with z | z
        · exact absurd hxt (h2 x z)
        · rw [List.mem_singleton.mp z]; exact Nat.le_refl _
      · have ht60 : t ≤ 60 := by have := (hb x (by simp [hx1])).2; omega
        rw [if_neg (by rw [h1]; exact nI_ne1 (by omega)), h1]
        by_cases q2 : t ≤ e.2.1
        · rw [if_pos (nI_le q2 (by omega))]
          refine Or.inr ⟨t, rfl, ⟨x, by simp [hx1], hx2, hx3⟩, fun y hy hyt => ?_⟩
          rcases List.mem_append.mp hy with z | z
          · exact h3 y z hyt
          · rw [List.mem_singleton.mp z]; exact q2
        · rw [if_neg (nI_ge (by omega) (by omega))]
          refine Or.inr ⟨e.2.1, rfl, ⟨e, by simp, q, rfl⟩, fun y hy hyt => ?_⟩
          rcases List.mem_append.mp hy with z | z
          · have := h3 y z hyt; omega
          · rw [List.mem_singleton.mp z]; exact Nat.le_refl _
    · rw [if_neg (fun z => q ((nI_eq (by omega) (by omega)).mp z))]
      rcases h with ⟨h1, h2⟩ | ⟨t, h1, ⟨x, hx1, hx2⟩, h3⟩
      · refine Or.inl ⟨h1, fun x hx => ?_⟩
        rcases List.mem_append.mp hx with z | z
        · exact h2 x z
        · rw [List.mem_singleton.mp z]; exact q
      · refine Or.inr ⟨t, h1, ⟨x, by simp [hx1], hx2⟩, fun y hy hyt => ?_⟩
        rcases List.mem_append.mp hy with z | z
        · exact h3 y z hyt
        · rw [List.mem_singleton.mp z] at hyt; exact absurd hyt q
theorem isFst_First {W : Nat → List (Option (Nat × Nat × Nat))} {a b : Nat} {gr : Nat → Int32} (hW : okW W a b gr) {to : Nat} {r : Int32} (h : isFst (lsU W 8) to r) : isFirst W to r := by
  rcases h with ⟨h1, h2⟩ | ⟨t, h1, ⟨e, he1, he2, he3⟩, h3⟩
  · exact Or.inl ⟨h1, fun w t v hw ht hs => h2 _ ((mem_lsU 8).mpr ⟨w, t, v, hw, ht, hs, rfl⟩)⟩
  · obtain ⟨w, t0, v, hw, ht, hs, rfl⟩ := (mem_lsU 8).mp he1
    have e3 : t0 = t := he3
    subst e3
    refine Or.inr ⟨t0, h1, ht, (sp_ok hW hw hs ht).2, ⟨w, v, hw, hs, he2⟩, fun w' t' v' hw' ht1 ht2 hs' => fun z => ?_⟩
    have := h3 _ ((mem_lsU 8).mpr ⟨w', t', v', hw', ht1, hs', rfl⟩) z
    have : t0 ≤ t' := this
    omega
theorem lsU_b {W : Nat → List (Option (Nat × Nat × Nat))} {a b : Nat} (ha : a ≤ 6) (hb : b ≤ 6) {gr : Nat → Int32} (hW : okW W a b gr) : ∀ e ∈ lsU W 8, e.1 < 36 ∧ e.2.1 ≤ 60 ∧ e.2.2.1 ≤ 99 ∧ e.2.2.2.1 ≤ 60 ∧ e.2.2.2.2 < 8 ∧ 1 ≤ e.2.1 ∧ 1 ≤ e.2.2.1 ∧ e.1 < a * b ∧ gr e.1 = -1 := by
  intro e he
  have h36 := mul_le36 ha hb
  obtain ⟨w, t0, v, hw, ht, hs, rfl⟩ := (mem_lsU 8).mp he
  obtain ⟨⟨o1, o2, o3, o4, o5⟩, o6⟩ := sp_ok hW hw hs ht
  exact ⟨by show v.1 < 36; omega, o6, o4, o5, hw, ht, o3, o1, o2⟩
end M58
