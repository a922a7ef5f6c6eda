section M47
/-- the first k places are g's -/
def cp (f g : Nat → Int32) (k : Nat) : Nat → Int32 := fun i => if i < k then g i else f i
theorem cp_0 (f g : Nat → Int32) : cp f g 0 = f := by
  funext i
  show (if i < 0 then g i else f i) = f i
  rw [if_neg (Nat.not_lt_zero i)]
theorem cp_s (f g : Nat → Int32) (k : Nat) : upd (cp f g k) k (g k) = cp f g (k + 1) := by
  funext i
  by_cases h : i = k
  · subst h
    rw [upd_same]
    show g i = if i < i + 1 then g i else f i
    rw [if_pos (Nat.lt_succ_self i)]
  · rw [upd_ne _ _ h]
    show (if i < k then g i else f i) = if i < k + 1 then g i else f i
    by_cases hk : i < k
    · rw [if_pos hk, if_pos (by omega)]
    · rw [if_neg hk, if_neg (by omega)]
theorem cp_lt (f g : Nat → Int32) {k i : Nat} (h : i < k) : cp f g k i = g i := if_pos h
theorem c2_L102 (c0 c1 c2 c3 c4 c5 : Int32) (gr wi lp lp' : Nat → Int32) : ∀ (d k n : Nat), k + d = 18 → d < n → f_X2_copyFrom_L102 c0 c1 c2 c3 c4 c5 gr wi lp' n (nI k) (cp lp lp' k) = some (c0, c1, c2, c3, c4, c5, gr, wi, cp lp lp' 18) := by
  intro d
  induction d with
  | zero =>
    intro k n hk hn
    obtain ⟨n, rfl⟩ : ∃ m, n = m + 1 := ⟨n - 1, by omega⟩
    have : k = 18 := by omega
    subst this
    rw [f_X2_copyFrom_L102]; rfl
  | succ d ih =>
    intro k n hk hn
    obtain ⟨n, rfl⟩ : ∃ m, n = m + 1 := ⟨n - 1, by omega⟩
    rw [f_X2_copyFrom_L102, if_neg (show ¬ (18 : Int32) ≤ nI k from nI_ge (b := 18) (by omega) (by decide)), gd_t (ib_nI (by omega) (by decide)), gd_t (ib_nI (by omega) (by decide)), nI_clamp (by omega), st1, cp_s]
    exact ih (k + 1) n (by omega) (by omega)
theorem c2_L76 (c0 c1 c2 c3 c4 c5 : Int32) (gr wi lp wi' lp' : Nat → Int32) : ∀ (d k n : Nat), k + d = 6 → d < n → f_X2_copyFrom_L76 c0 c1 c2 c3 c4 c5 gr lp wi' lp' n (nI k) (cp wi wi' k) = some (c0, c1, c2, c3, c4, c5, gr, cp wi wi' 6, cp lp lp' 18) := by
  intro d
  induction d with
  | zero =>
    intro k n hk hn
    obtain ⟨n, rfl⟩ : ∃ m, n = m + 1 := ⟨n - 1, by omega⟩
    have : k = 6 := by omega
    subst this
    rw [f_X2_copyFrom_L76, if_pos (show (6 : Int32) ≤ nI 6 by decide)]
    unfold f_X2_copyFrom_J100
    have := c2_L102 c0 c1 c2 c3 c4 c5 gr (cp wi wi' 6) lp lp' 18 0 FU rfl (by decide)
    rw [cp_0] at this
    exact this
  | succ d ih =>
    intro k n hk hn
    obtain ⟨n, rfl⟩ : ∃ m, n = m + 1 := ⟨n - 1, by omega⟩
    rw [f_X2_copyFrom_L76, if_neg (show ¬ (6 : Int32) ≤ nI k from nI_ge (b := 6) (by omega) (by decide)), gd_t (ib_nI (by omega) (by decide)), gd_t (ib_nI (by omega) (by decide)), nI_clamp (by omega), st1, cp_s]
    exact ih (k + 1) n (by omega) (by omega)
theorem c2_L50 (c0 c1 c2 c3 c4 c5 : Int32) (gr wi lp gr' wi' lp' : Nat → Int32) : ∀ (d k n : Nat), k + d = 36 → d < n → f_X2_copyFrom_L50 c0 c1 c2 c3 c4 c5 wi lp gr' wi' lp' n (nI k) (cp gr gr' k) = some (c0, c1, c2, c3, c4, c5, cp gr gr' 36, cp wi wi' 6, cp lp lp' 18) := by
  intro d
  induction d with
  | zero =>
    intro k n hk hn
    obtain ⟨n, rfl⟩ : ∃ m, n = m + 1 := ⟨n - 1, by omega⟩
    have : k = 36 := by omega
    subst this
    rw [f_X2_copyFrom_L50, if_pos (show (36 : Int32) ≤ nI 36 by decide)]
    unfold f_X2_copyFrom_J74
    have := c2_L76 c0 c1 c2 c3 c4 c5 (cp gr gr' 36) wi lp wi' lp' 6 0 FU rfl (by decide)
    rw [cp_0] at this
    exact this
  | succ d ih =>
    intro k n hk hn
    obtain ⟨n, rfl⟩ : ∃ m, n = m + 1 := ⟨n - 1, by omega⟩
    rw [f_X2_copyFrom_L50, if_neg (show ¬ (36 : Int32) ≤ nI k from nI_ge (b := 36) (by omega) (by decide)), gd_t (ib_nI (by omega) (by decide)), gd_t (ib_nI (by omega) (by decide)), nI_clamp (by omega), st1, cp_s]
    exact ih (k + 1) n (by omega) (by omega)
theorem copy2 (c0 c1 c2 c3 c4 c5 d0 d1 d2 d3 d4 d5 : Int32) (gr wi lp gr' wi' lp' : Nat → Int32) : f_X2_copyFrom d0 d1 d2 d3 d4 d5 gr wi lp c0 c1 c2 c3 c4 c5 gr' wi' lp' = some (c0, c1, c2, c3, c4, c5, cp gr gr' 36, cp wi wi' 6, cp lp lp' 18) := by
  have := c2_L50 c0 c1 c2 c3 c4 c5 gr wi lp gr' wi' lp' 36 0 FU rfl (by decide)
  rw [cp_0] at this
  exact this
def nb (f : Nat → Int32) : Nat → Int32 := fun i => vp_nar .boolean (f i)
theorem c1_L90 (cr no : Int32) (de ci lo hi ho he mi he' mi' : Nat → Int32) : ∀ (d k n : Nat), k + d = 12 → d < n → f_X1_copyFrom_L90 de ci lo hi ho cr no he' mi' n (nI k) (cp he he' k) (cp mi mi' k) = some (cr, no, de, ci, lo, hi, ho, cp he he' 12, cp mi mi' 12) := by
  intro d
  induction d with
  | zero =>
    intro k n hk hn
    obtain ⟨n, rfl⟩ : ∃ m, n = m + 1 := ⟨n - 1, by omega⟩
    have : k = 12 := by omega
    subst this
    rw [f_X1_copyFrom_L90]; rfl
  | succ d ih =>
    intro k n hk hn
    obtain ⟨n, rfl⟩ : ∃ m, n = m + 1 := ⟨n - 1, by omega⟩
    rw [f_X1_copyFrom_L90, if_neg (show ¬ (12 : Int32) ≤ nI k from nI_ge (b := 12) (by omega) (by decide)), gd_t (ib_nI (by omega) (by decide)), gd_t (ib_nI (by omega) (by decide)), gd_t (ib_nI (by omega) (by decide)), gd_t (ib_nI (by omega) (by decide)), nI_clamp (by omega), st1, cp_s, cp_s]
    exact ih (k + 1) n (by omega) (by omega)
theorem c1_L28 (cr no : Int32) (de ci lo hi ho he mi ci' lo' hi' ho' he' mi' : Nat → Int32) : ∀ (d k n : Nat), k + d = 20 → d < n → f_X1_copyFrom_L28 de he mi cr no ci' lo' hi' ho' he' mi' n (nI k) (cp ci ci' k) (cp lo lo' k) (cp hi (nb hi') k) (cp ho ho' k) = some (cr, no, de, cp ci ci' 20, cp lo lo' 20, cp hi (nb hi') 20, cp ho ho' 20, cp he he' 12, cp mi mi' 12) := by
  intro d
  induction d with
  | zero =>
    intro k n hk hn
    obtain ⟨n, rfl⟩ : ∃ m, n = m + 1 := ⟨n - 1, by omega⟩
    have : k = 20 := by omega
    subst this
    rw [f_X1_copyFrom_L28, if_pos (show (20 : Int32) ≤ nI 20 by decide)]
    unfold f_X1_copyFrom_J88
    have := c1_L90 cr no de (cp ci ci' 20) (cp lo lo' 20) (cp hi (nb hi') 20) (cp ho ho' 20) he mi he' mi' 12 0 FU rfl (by decide)
    rw [cp_0, cp_0] at this
    exact this
  | succ d ih =>
    intro k n hk hn
    obtain ⟨n, rfl⟩ : ∃ m, n = m + 1 := ⟨n - 1, by omega⟩
    rw [f_X1_copyFrom_L28, if_neg (show ¬ (20 : Int32) ≤ nI k from nI_ge (b := 20) (by omega) (by decide)), gd_t (ib_nI (by omega) (by decide)), gd_t (ib_nI (by omega) (by decide)), gd_t (ib_nI (by omega) (by decide)), gd_t (ib_nI (by omega) (by decide)), gd_t (ib_nI (by omega) (by decide)), gd_t (ib_nI (by omega) (by decide)), gd_t (ib_nI (by omega) (by decide)), gd_t (ib_nI (by omega) (by decide)), nI_clamp (by omega), st1, cp_s, cp_s, cp_s, show vp_nar .boolean (hi' k) = nb hi' k from rfl, cp_s]
    exact ih (k + 1) n (by omega) (by omega)
theorem c1_L2 (cr no : Int32) (de ci lo hi ho he mi de' ci' lo' hi' ho' he' mi' : Nat → Int32) : ∀ (d k n : Nat), k + d = 36 → d < n → f_X1_copyFrom_L2 ci lo hi ho he mi cr no de' ci' lo' hi' ho' he' mi' n (nI k) (cp de de' k) = some (cr, no, cp de de' 36, cp ci ci' 20, cp lo lo' 20, cp hi (nb hi') 20, cp ho ho' 20, cp he he' 12, cp mi mi' 12) := by
  intro d
  induction d with
  | zero =>
    intro k n hk hn
    obtain ⟨n, rfl⟩ : ∃ m, n = m + 1 := ⟨n - 1, by omega⟩
    have : k = 36 := by omega
    subst this
    rw [f_X1_copyFrom_L2, if_pos (show (36 : Int32) ≤ nI 36 by decide)]
    unfold f_X1_copyFrom_J26
    have := c1_L28 cr no (cp de de' 36) ci lo hi ho he mi ci' lo' hi' ho' he' mi' 20 0 FU rfl (by decide)
    rw [cp_0, cp_0, cp_0, cp_0] at this
    exact this
  | succ d ih =>
    intro k n hk hn
    obtain ⟨n, rfl⟩ : ∃ m, n = m + 1 := ⟨n - 1, by omega⟩
    rw [f_X1_copyFrom_L2, if_neg (show ¬ (36 : Int32) ≤ nI k from nI_ge (b := 36) (by omega) (by decide)), gd_t (ib_nI (by omega) (by decide)), gd_t (ib_nI (by omega) (by decide)), nI_clamp (by omega), st1, cp_s]
    exact ih (k + 1) n (by omega) (by omega)
theorem copy1 (cr no cr0 no0 : Int32) (de ci lo hi ho he mi de' ci' lo' hi' ho' he' mi' : Nat → Int32) : f_X1_copyFrom cr0 no0 de ci lo hi ho he mi cr no de' ci' lo' hi' ho' he' mi' = some (cr, no, cp de de' 36, cp ci ci' 20, cp lo lo' 20, cp hi (nb hi') 20, cp ho ho' 20, cp he he' 12, cp mi mi' 12) := by
  have := c1_L2 cr no de ci lo hi ho he mi de' ci' lo' hi' ho' he' mi' 36 0 FU rfl (by decide)
  rw [cp_0] at this
  exact this
/-- the reference's copy of a row of 186 places -/
theorem copyM {f t : Nat} (hf : f ≤ 2) (ht : t ≤ 2) (hft : f ≠ t) (row : Nat → Int32) : ∃ row', f_X10_copy row (nI f) (nI t) = some row' ∧ (∀ i, i < 186 → row' (186 * t + i) = row (186 * f + i)) ∧ ∀ i, (∀ j, j < 186 → i ≠ 186 * t + j) → row' i = row i := by
  have e : ∀ a b : Nat, (186 : Int32) * nI a + nI b = nI (186 * a + b) := fun a b => by
    rw [show (186 : Int32) = nI 186 from rfl, nI_mul, nI_add]
  have L : ∀ (d k n : Nat) (r : Nat → Int32), k + d = 186 → d < n → (∀ i, (∀ j, j < 186 → i ≠ 186 * t + j) → r i = row i) → (∀ i, i < k → r (186 * t + i) = row (186 * f + i)) → ∃ row', f_X10_copy_L2 (nI f) (nI t) n (nI k) r = some row' ∧ (∀ i, i < 186 → row' (186 * t + i) = row (186 * f + i)) ∧ ∀ i, (∀ j, j < 186 → i ≠ 186 * t + j) → row' i = row i := by
    intro d
    induction d with
    | zero =>
      intro k n r hk hn h1 h2
      obtain ⟨n, rfl⟩ : ∃ m, n = m + 1 := ⟨n - 1, by omega⟩
      have : k = 186 := by omega
      subst this
      exact ⟨r, by rw [f_X10_copy_L2]; rfl, h2, h1⟩
    | succ d ih =>
      intro k n r hk hn h1 h2
      obtain ⟨n, rfl⟩ : ∃ m, n = m + 1 := ⟨n - 1, by omega⟩
      rw [f_X10_copy_L2, if_neg (show ¬ (186 : Int32) ≤ nI k from nI_ge (b := 186) (by omega) (by decide)), e, e, gd_t (ib_nI (by omega) (by decide)), gd_t (ib_nI (by omega) (by decide)), nI_clamp (by omega), nI_clamp (by omega), st1]
      refine ih (k + 1) n _ (by omega) (by omega) (fun i hi => ?_) (fun i hi => ?_)
      · rw [upd_ne _ _ (hi k (by omega))]
        exact h1 i hi
      · by_cases hik : i = k
        · subst hik
          rw [upd_same]
          exact h1 _ (fun j hj => by omega)
        · rw [upd_ne _ _ (by omega)]
          exact h2 i (by omega)
  exact L 186 0 FU row rfl (by decide) (fun _ _ => rfl) (fun i hi => absurd hi (Nat.not_lt_zero i))
end M47
