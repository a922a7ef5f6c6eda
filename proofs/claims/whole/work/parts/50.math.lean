section M50
/-! settled -/
theorem bitC : ∀ s, s < 64 → ∀ p, p < 6 → (((nI s >>> (nI p &&& 31)) &&& 1 = 0) ↔ s.testBit p = false) := by decide +kernel
theorem bitM : ∀ s, s < 64 → ∀ p, p < 6 → f_X10_has (nI s) (nI p) = some (if s.testBit p then 1 else 0) := by decide +kernel
theorem restC : ∀ s, s < 64 → ∀ p, p < 6 → s.testBit p = true → nI s ^^^ (1 <<< (nI p &&& 31)) = nI (s - 2 ^ p) ∧ s - 2 ^ p < s := by decide +kernel
theorem restM : ∀ s, s < 64 → ∀ p, p < 6 → s.testBit p = true → nI s &&& ((1 <<< (nI p &&& 31)) ^^^ (-1)) = nI (s - 2 ^ p) := by decide +kernel
theorem restB : ∀ s, s < 64 → ∀ p, p < 6 → s.testBit p = true → ∀ k, k < 6 → (s - 2 ^ p).testBit k = (if k = p then false else s.testBit k) := by decide +kernel
/-- the sum of a set's nets -/
def ss (N : Nat → Int32) (s : Nat) : Nat → Int32 := sm (fun k => if s.testBit k then N k else 0)
theorem sm_one {f g : Nat → Int32} {p : Nat} {x : Int32} (hp : f p = x) (hq : g p = 0) : ∀ (n : Nat), (∀ k, k < n → k ≠ p → f k = g k) → sm f n = sm g n + (if p < n then x else 0) := by
  intro n
  induction n with
  | zero => intro _; rw [if_neg (Nat.not_lt_zero p)]; rfl
  | succ n ih =>
    intro h
    rw [sm, sm, ih (fun k hk hkp => h k (by omega) hkp)]
    by_cases hn : n = p
    · subst hn
      rw [if_neg (Nat.lt_irrefl n), if_pos (Nat.lt_succ_self n), hp, hq, add_0']
    · rw [h n (Nat.lt_succ_self n) hn]
      by_cases hl : p < n
      · rw [if_pos hl, if_pos (by omega), Int32.add_assoc, Int32.add_comm x, ← Int32.add_assoc]
      · rw [if_neg hl, if_neg (by omega), add_0', add_0']
theorem ss_rest (N : Nat → Int32) {s p : Nat} (hs : s < 64) (hp : p < 6) (hb : s.testBit p = true) : ss N (s - 2 ^ p) 6 + N p = ss N s 6 := by
  have h := sm_one (f := fun k => if s.testBit k then N k else 0) (g := fun k => if (s - 2 ^ p).testBit k then N k else 0) (p := p) (x := N p) (by show (if s.testBit p then N p else 0) = N p; rw [hb]; rfl) (by show (if (s - 2 ^ p).testBit p then N p else 0) = 0; rw [restB s hs p hp hb p hp, if_pos rfl]; rfl) 6 (fun k hk hkp => by show (if s.testBit k then N k else 0) = (if (s - 2 ^ p).testBit k then N k else 0); rw [restB s hs p hp hb k hk, if_neg hkp])
  rw [if_pos hp] at h
  exact h.symm
/-- the most groups among those that leave one of the set out -/
def mg' (G : Nat → Int32) (s : Nat) : Nat → Int32
  | 0 => 0
  | k + 1 => if s.testBit k then (if mg' G s k < G (s - 2 ^ k) then G (s - 2 ^ k) else mg' G s k) else mg' G s k
theorem mg_congr {G G' : Nat → Int32} {s : Nat} (hs : s < 64) (h : ∀ t, t < s → G t = G' t) : ∀ k, k ≤ 6 → mg' G s k = mg' G' s k := by
  intro k
  induction k with
  | zero => intro _; rfl
  | succ k ih =>
    intro hk
    rw [mg', mg', ih (by omega)]
    by_cases hb : s.testBit k = true
    · rw [if_pos hb, if_pos hb, h _ (restC s hs k (by omega) hb).2]
    · rw [if_neg hb, if_neg hb]
def G1 (N : Nat → Int32) (G : Nat → Int32) (s : Nat) : Int32 := if ss N s 6 = 0 then mg' G s 6 + 1 else mg' G s 6
theorem weigh_L5 (debts : Nat → Int32) {N : Nat → Int32} (hN : ∀ p, p < 6 → f_X1_netOf debts (nI p) = some (N p)) (G : Nat → Int32) {s : Nat} (hs : s < 64) (hne : ∃ p, p < 6 ∧ s.testBit p = true) : ∀ (d k n : Nat) (sums : Nat → Int32), k + d = 6 → d < n → (∀ t, t < s → sums t = ss N t 6) → ((∃ p, p < k ∧ s.testBit p = true) → sums s = ss N s 6) → ∃ sums', f_X6_weigh_L5 G debts (nI s) n (mg' G s k) (nI k) sums = some (sums', upd G s (G1 N G s)) ∧ ∀ t, t ≤ s → sums' t = ss N t 6 := by
  intro d
  induction d with
  | zero =>
    intro k n sums hk hn h1 h2
    obtain ⟨n, rfl⟩ : ∃ m, n = m + 1 := ⟨n - 1, by omega⟩
    have : k = 6 := by omega
    subst this
    have h3 := h2 hne
    refine ⟨sums, ?_, fun t ht => ?_⟩
    · rw [f_X6_weigh_L5, if_pos (show (6 : Int32) ≤ nI 6 by decide)]
      unfold f_X6_weigh_J70 f_X6_weigh_J91 G1
      simp only [gd_t (ib_nI hs (by decide)), nI_clamp (show s < 2 ^ 31 by omega), h3]
      by_cases q : ss N s 6 = 0
      · rw [if_pos q, if_pos q]
      · rw [if_neg q, if_neg q]
    · rcases Nat.lt_or_eq_of_le ht with q | q
      · exact h1 t q
      · rw [q]; exact h3
  | succ d ih =>
    intro k n sums hk hn h1 h2
    obtain ⟨n, rfl⟩ : ∃ m, n = m + 1 := ⟨n - 1, by omega⟩
    rw [f_X6_weigh_L5, if_neg (show ¬ (6 : Int32) ≤ nI k from nI_ge (b := 6) (by omega) (by decide))]
    unfold f_X6_weigh_J64
    rw [st1]
    by_cases hb : s.testBit k = true
    · obtain ⟨e1, e2⟩ := restC s hs k (by omega) hb
      have eb : ¬ ((nI s >>> (nI k &&& 31)) &&& 1 = 0) := fun q => by rw [(bitC s hs k (by omega)).mp q] at hb; cases hb
      simp only [if_neg eb, e1, gd_t (ib_nI (show s - 2 ^ k < 64 by omega) (by decide)), gd_t (ib_nI hs (by decide)), nI_clamp (show s - 2 ^ k < 2 ^ 31 by omega), nI_clamp (show s < 2 ^ 31 by omega), hN k (by omega), bS]
      have := ih (k + 1) n (upd sums s (sums (s - 2 ^ k) + N k)) (by omega) (by omega) (fun t ht => by rw [upd_ne _ _ (by omega)]; exact h1 t ht) (fun _ => by rw [upd_same, h1 _ e2]; exact ss_rest N hs (by omega) hb)
      rw [mg', if_pos hb] at this
      exact this
    · have eb : (nI s >>> (nI k &&& 31)) &&& 1 = 0 := (bitC s hs k (by omega)).mpr (by simpa using hb)
      rw [if_pos eb]
      have := ih (k + 1) n sums (by omega) (by omega) h1 (fun ⟨p, hp1, hp2⟩ => h2 ⟨p, by
        rcases Nat.lt_or_eq_of_le (show p ≤ k by omega) with q | q
        · exact q
        · rw [q] at hp2; exact absurd hp2 hb, hp2⟩)
      rw [mg', if_neg hb] at this
      exact this
theorem ne0' : ∀ s, s < 64 → 0 < s → (s.testBit 0 || s.testBit 1 || s.testBit 2 || s.testBit 3 || s.testBit 4 || s.testBit 5) = true := by decide +kernel
theorem ne0 (s : Nat) (h0 : 0 < s) (hs : s < 64) : ∃ p, p < 6 ∧ s.testBit p = true := by
  have h := ne0' s hs h0
  simp only [Bool.or_eq_true] at h
  rcases h with ((((h | h) | h) | h) | h) | h
  · exact ⟨0, by decide, h⟩
  · exact ⟨1, by decide, h⟩
  · exact ⟨2, by decide, h⟩
  · exact ⟨3, by decide, h⟩
  · exact ⟨4, by decide, h⟩
  · exact ⟨5, by decide, h⟩
/-- the groups, set by set -/
theorem few_L16 (debts : Nat → Int32) {N : Nat → Int32} (hN : ∀ p, p < 6 → f_X1_netOf debts (nI p) = some (N p)) : ∀ (d s n : Nat) (sums G : Nat → Int32), 1 ≤ s → s + d = 64 → d < n → (∀ t, t < s → sums t = ss N t 6) → G 0 = 0 → (∀ t, 1 ≤ t → t < s → G t = G1 N G t) → ∃ sums' G', f_X6_fewestPayments_L16 debts n (nI s) sums G = some (6 - G' 63, sums', G') ∧ G' 0 = 0 ∧ ∀ t, 1 ≤ t → t < 64 → G' t = G1 N G' t := by
  intro d
  induction d with
  | zero =>
    intro s n sums G h1s hk hn h1 h2 h3
    obtain ⟨n, rfl⟩ : ∃ m, n = m + 1 := ⟨n - 1, by omega⟩
    have : s = 64 := by omega
    subst this
    exact ⟨sums, G, by rw [f_X6_fewestPayments_L16]; rfl, h2, h3⟩
  | succ d ih =>
    intro s n sums G h1s hk hn h1 h2 h3
    obtain ⟨n, rfl⟩ : ∃ m, n = m + 1 := ⟨n - 1, by omega⟩
    have hs : s < 64 := by omega
    obtain ⟨sums', q1, q2⟩ := weigh_L5 debts hN G hs (ne0 s (by omega) hs) 6 0 FU sums rfl (by decide) h1 (fun ⟨p, hp, _⟩ => absurd hp (Nat.not_lt_zero p))
    have eq : f_X6_weigh sums G debts (nI s) = some (sums', upd G s (G1 N G s)) := q1
    rw [f_X6_fewestPayments_L16, if_neg (show ¬ (64 : Int32) ≤ nI s from nI_ge (b := 64) hs (by decide)), eq, bS, st1]
    have gc : ∀ t, t ≤ s → G1 N (upd G s (G1 N G s)) t = G1 N G t := fun t ht => by
      unfold G1
      rw [mg_congr (by omega) (fun u hu => upd_ne G _ (show u ≠ s by omega)) 6 (Nat.le_refl 6)]
    refine ih (s + 1) n sums' (upd G s (G1 N G s)) (by omega) (by omega) (by omega) (fun t ht => q2 t (by omega)) (by rw [upd_ne _ _ (by omega)]; exact h2) (fun t ht1 ht2 => ?_)
    rw [gc t (by omega)]
    by_cases hts : t = s
    · subst hts; rw [upd_same]
    · rw [upd_ne _ _ hts]; exact h3 t ht1 (by omega)
end M50
