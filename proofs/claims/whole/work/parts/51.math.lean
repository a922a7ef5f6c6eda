section M51
theorem set_L18 (rc : Int32 → (Nat → Int32) → Option (Int32 × (Nat → Int32))) (row : Nat → Int32) {N : Nat → Int32} (hN : ∀ p, p < 6 → f_X10_net row (nI p) = some (N p)) (G : Nat → Int32) {s : Nat} (hs : s < 64) : ∀ (d k n : Nat), k + d = 6 → d < n → f_X10_settled_L18 rc row G (nI s) n (ss N s k) (mg' G s k) (nI k) = rc (nI (s + 1)) (upd G s (if s = 0 then mg' G s 6 else G1 N G s)) := by
  intro d
  induction d with
  | zero =>
    intro k n hk hn
    obtain ⟨n, rfl⟩ : ∃ m, n = m + 1 := ⟨n - 1, by omega⟩
    have : k = 6 := by omega
    subst this
    rw [f_X10_settled_L18, if_pos (show (6 : Int32) ≤ nI 6 by decide)]
    unfold f_X10_settled_J80 f_X10_settled_J99 f_X10_settled_J100 G1
    simp only [gd_t (ib_nI hs (by decide)), nI_clamp (show s < 2 ^ 31 by omega), st1, add_0']
    by_cases h0 : s = 0
    · rw [if_pos (show nI s ≤ 0 by rw [h0]; decide), if_pos h0]
    · rw [if_neg (nI_nle (by omega) (by omega)), if_neg h0]
      by_cases q : ss N s 6 = 0
      · rw [if_pos q, if_pos q]
      · rw [if_neg q, if_neg q]
  | succ d ih =>
    intro k n hk hn
    obtain ⟨n, rfl⟩ : ∃ m, n = m + 1 := ⟨n - 1, by omega⟩
    have := ih (k + 1) n (by omega) (by omega)
    rw [f_X10_settled_L18, if_neg (show ¬ (6 : Int32) ≤ nI k from nI_ge (b := 6) (by omega) (by decide)), bitM s hs k (by omega), bS]
    unfold f_X10_settled_J74 f_X10_settled_J72 f_X10_settled_J74
    rw [st1]
    by_cases hb : s.testBit k = true
    · have e1 := restM s hs k (by omega) hb
      have e2 := (restC s hs k (by omega) hb).2
      have es : ss N s (k + 1) = ss N s k + N k := by
        show sm _ k + (if s.testBit k then N k else 0) = _
        rw [if_pos hb]; rfl
      rw [es, mg', if_pos hb] at this
      simp only [if_pos hb, i10, hN k (by omega), bS, e1, gd_t (ib_nI (show s - 2 ^ k < 64 by omega) (by decide)), nI_clamp (show s - 2 ^ k < 2 ^ 31 by omega)]
      by_cases q : mg' G s k < G (s - 2 ^ k)
      · rw [if_neg (Int32.not_le.mpr q)]; rw [if_pos q] at this; exact this
      · rw [if_pos (Int32.not_lt.mp q)]; rw [if_neg q] at this; exact this
    · have es : ss N s (k + 1) = ss N s k := by
        show sm _ k + (if s.testBit k then N k else 0) = _
        rw [if_neg hb, add_0']; rfl
      rw [es, mg', if_neg hb] at this
      rw [if_neg hb, i00]
      exact this
theorem mg_0 (G : Nat → Int32) : ∀ k, mg' G 0 k = 0 := by
  intro k
  induction k with
  | zero => rfl
  | succ k ih => rw [mg', ih]; simp
theorem set_L4 (row : Nat → Int32) {N : Nat → Int32} (hN : ∀ p, p < 6 → f_X10_net row (nI p) = some (N p)) (x1 : Int32) : ∀ (d s n : Nat) (G : Nat → Int32), s + d = 64 → d < n → (0 < s → G 0 = 0) → (∀ t, 1 ≤ t → t < s → G t = G1 N G t) → ∃ G', f_X10_settled_L4 row x1 n (nI s) G = f_X10_settled_J108 row G' x1 ∧ G' 0 = 0 ∧ ∀ t, 1 ≤ t → t < 64 → G' t = G1 N G' t := by
  intro d
  induction d with
  | zero =>
    intro s n G hk hn h2 h3
    obtain ⟨n, rfl⟩ : ∃ m, n = m + 1 := ⟨n - 1, by omega⟩
    have : s = 64 := by omega
    subst this
    exact ⟨G, by rw [f_X10_settled_L4, if_pos (show (64 : Int32) ≤ nI 64 by decide)], h2 (by decide), h3⟩
  | succ d ih =>
    intro s n G hk hn h2 h3
    obtain ⟨n, rfl⟩ : ∃ m, n = m + 1 := ⟨n - 1, by omega⟩
    have hs : s < 64 := by omega
    have q1 := set_L18 (f_X10_settled_L4 row x1 n) row hN G hs 6 0 FU rfl (by decide)
    have q1' : f_X10_settled_L18 (f_X10_settled_L4 row x1 n) row G (nI s) FU 0 0 0 = _ := q1
    rw [f_X10_settled_L4, if_neg (show ¬ (64 : Int32) ≤ nI s from nI_ge (b := 64) hs (by decide)), q1']
    have gc : ∀ x t, t ≤ s → G1 N (upd G s x) t = G1 N G t := fun x t ht => by
      unfold G1
      rw [mg_congr (by omega) (fun u hu => upd_ne G _ (show u ≠ s by omega)) 6 (Nat.le_refl 6)]
    refine ih (s + 1) n _ (by omega) (by omega) (fun _ => ?_) (fun t ht1 ht2 => ?_)
    · by_cases h0 : s = 0
      · subst h0; rw [upd_same, if_pos rfl, mg_0]
      · rw [upd_ne _ _ (by omega)]; exact h2 (by omega)
    · rw [gc _ t (by omega)]
      by_cases hts : t = s
      · subst hts; rw [upd_same, if_neg (by omega)]
      · rw [upd_ne _ _ hts]; exact h3 t ht1 (by omega)
/-- both have the same groups -/
theorem G_eq {N G G' : Nat → Int32} (h0 : G 0 = 0) (h0' : G' 0 = 0) (h : ∀ t, 1 ≤ t → t < 64 → G t = G1 N G t) (h' : ∀ t, 1 ≤ t → t < 64 → G' t = G1 N G' t) : ∀ t, t < 64 → G t = G' t := by
  intro t
  induction t using Nat.strongRecOn with
  | ind t ih =>
    intro ht
    by_cases hz : t = 0
    · subst hz; rw [h0, h0']
    · rw [h t (by omega) ht, h' t (by omega) ht]
      unfold G1
      rw [mg_congr ht (fun u hu => ih u hu (by omega)) 6 (Nat.le_refl 6)]
/-- nobody owes anything: as many groups as persons -/
def pcn (s : Nat) : Nat := (if s.testBit 0 then 1 else 0) + (if s.testBit 1 then 1 else 0) + (if s.testBit 2 then 1 else 0) + (if s.testBit 3 then 1 else 0) + (if s.testBit 4 then 1 else 0) + (if s.testBit 5 then 1 else 0)
theorem pcn_rest : ∀ s, s < 64 → ∀ p, p < 6 → s.testBit p = true → pcn (s - 2 ^ p) + 1 = pcn s := by decide +kernel
theorem pcn_le : ∀ s, s < 64 → pcn s ≤ 6 := by decide +kernel
theorem G_zero {N G : Nat → Int32} (hz : ∀ p, p < 6 → N p = 0) (h0 : G 0 = 0) (h : ∀ t, 1 ≤ t → t < 64 → G t = G1 N G t) : ∀ t, t < 64 → G t = nI (pcn t) := by
  have hss : ∀ s, ss N s 6 = 0 := fun s => by
    unfold ss
    rw [sm_congr (g := fun _ => 0) 6 (fun k hk => by show (if s.testBit k then N k else 0) = 0; rw [hz k hk]; simp)]
    rfl
  intro t
  induction t using Nat.strongRecOn with
  | ind t ih =>
    intro ht
    by_cases hz0 : t = 0
    · subst hz0; rw [h0]; rfl
    · have hm : ∀ k, k ≤ 6 → mg' G t k = 0 ∧ (∀ p, p < k → t.testBit p = false) ∨ mg' G t k = nI (pcn t - 1) := by
        intro k
        induction k with
        | zero => intro _; exact Or.inl ⟨rfl, fun p hp => absurd hp (Nat.not_lt_zero p)⟩
        | succ k ihk =>
          intro hk
          by_cases hb : t.testBit k = true
          · right
            have e := ih (t - 2 ^ k) (restC t ht k (by omega) hb).2 (Nat.lt_of_le_of_lt (Nat.sub_le _ _) ht)
            have e2 := pcn_rest t ht k (by omega) hb
            have e3 := pcn_le t ht
            rw [mg', if_pos hb, e, show pcn (t - 2 ^ k) = pcn t - 1 by omega]
            rcases ihk (by omega) with ⟨q, -⟩ | q
            · rw [q]
              by_cases z : pcn t - 1 = 0
              · rw [z]; rfl
              · rw [if_pos (show (0 : Int32) < nI (pcn t - 1) from nI_lt (a := 0) (by omega) (by omega))]
            · rw [q, if_neg Int32.lt_irrefl]
          · rw [mg', if_neg hb]
            rcases ihk (by omega) with ⟨q, q2⟩ | q
            · refine Or.inl ⟨q, fun p hp => ?_⟩
              rcases Nat.lt_or_eq_of_le (show p ≤ k by omega) with z | z
              · exact q2 p z
              · rw [z]; simpa using hb
            · exact Or.inr q
      obtain ⟨p, hp, hb⟩ := ne0 t (by omega) ht
      have e2 := pcn_rest t ht p hp hb
      rw [h t (by omega) ht]
      unfold G1
      rw [if_pos (hss t)]
      rcases hm 6 (Nat.le_refl 6) with ⟨-, q⟩ | q
      · rw [q p hp] at hb; cases hb
      · rw [q, st1]; congr 1; omega
theorem set_L110 (row : Nat → Int32) {N : Nat → Int32} (hN : ∀ p, p < 6 → f_X10_net row (nI p) = some (N p)) (G : Nat → Int32) : ∀ (d k n c : Nat), k + d = 6 → d < n → c ≤ k → ∃ c' : Nat, c' ≤ 6 ∧ f_X10_settled_L110 row G n (nI c) (nI k) = f_X10_settled_J138 G (nI c') ∧ (c' = 0 ↔ c = 0 ∧ ∀ p, k ≤ p → p < 6 → N p = 0) := by
  intro d
  induction d with
  | zero =>
    intro k n c hk hn hc
    obtain ⟨n, rfl⟩ : ∃ m, n = m + 1 := ⟨n - 1, by omega⟩
    have : k = 6 := by omega
    subst this
    exact ⟨c, hc, by rw [f_X10_settled_L110, if_pos (show (6 : Int32) ≤ nI 6 by decide)], ⟨fun h => ⟨h, fun p h1 h2 => absurd h1 (by omega)⟩, fun h => h.1⟩⟩
  | succ d ih =>
    intro k n c hk hn hc
    obtain ⟨n, rfl⟩ : ∃ m, n = m + 1 := ⟨n - 1, by omega⟩
    rw [f_X10_settled_L110, if_neg (show ¬ (6 : Int32) ≤ nI k from nI_ge (b := 6) (by omega) (by decide)), hN k (by omega), bS]
    unfold f_X10_settled_J130
    rw [st1]
    by_cases z : N k = 0
    · obtain ⟨c', h1, h2, h3⟩ := ih (k + 1) n c (by omega) (by omega) (by omega)
      refine ⟨c', h1, by rw [if_pos z, add_0']; exact h2, h3.trans ⟨fun ⟨q1, q2⟩ => ⟨q1, fun p hp1 hp2 => ?_⟩, fun ⟨q1, q2⟩ => ⟨q1, fun p hp1 hp2 => q2 p (by omega) hp2⟩⟩⟩
      rcases Nat.lt_or_eq_of_le hp1 with w | w
      · exact q2 p w hp2
      · rw [← w]; exact z
    · obtain ⟨c', h1, h2, h3⟩ := ih (k + 1) n (c + 1) (by omega) (by omega) (by omega)
      refine ⟨c', h1, by rw [if_neg z, st1]; exact h2, h3.trans ⟨fun ⟨q1, _⟩ => absurd q1 (by omega), fun ⟨q1, q2⟩ => absurd (q2 k (Nat.le_refl k) (by omega)) z⟩⟩
theorem ob_settled : Ob_settled RR := by
  intro X XA XL Y YA h
  have h0 := h
  obtain ⟨ht, hc, hl, hbk, hi1, hi2⟩ := h
  have hd := hbk.1
  simp only [Nat.zero_add] at hd
  have hNC : ∀ p, p < 6 → f_X1_netOf (XA 8) (nI p) = some (sm (fun k => XA 8 (6 * k + p)) 6) := fun p hp => netC _ hp
  have hNM : ∀ p, p < 6 → f_X10_net (YA 0) (nI p) = some (sm (fun k => XA 8 (6 * k + p)) 6) := fun p hp => by
    rw [netM _ hp, sm_congr 6 (fun k hk => (hd k p hk hp).symm)]
  obtain ⟨sums', GC, q1, q2, q3⟩ := few_L16 (XA 8) (N := fun p => sm (fun k => XA 8 (6 * k + p)) 6) hNC 63 1 FU (upd (XA 40) 0 0) (upd (XA 41) 0 0) (by decide) rfl (by decide) (fun t ht => by
    rw [show t = 0 by omega, upd_same]; rfl) (upd_same _ _ _) (fun t h1 h2 => absurd h1 (by omega))
  have e1 : f_X9_settled (XA 8) (XA 40) (XA 41) = some (6 - GC 63, sums', GC) := by
    have : f_X6_fewestPayments (XA 40) (XA 41) (XA 8) = some (6 - GC 63, sums', GC) := by
      unfold f_X6_fewestPayments
      rw [gd_t (show ib 0 64 by decide), gd_t (show ib 0 64 by decide), show Int32.toNatClampNeg 0 = 0 from rfl]
      exact q1
    unfold f_X9_settled
    rw [this]
    rfl
  obtain ⟨GM, r1, r2, r3⟩ := set_L4 (YA 0) (N := fun p => sm (fun k => XA 8 (6 * k + p)) 6) hNM 0 64 0 FU (YA 11) rfl (by decide) (fun h => absurd h (by decide)) (fun t h1 h2 => absurd h2 (by omega))
  obtain ⟨c', c1, c2, c3⟩ := set_L110 (YA 0) (N := fun p => sm (fun k => XA 8 (6 * k + p)) 6) hNM GM 6 0 FU 0 rfl (by decide) (Nat.le_refl 0)
  have e2 : f_X10_settled (YA 0) (YA 11) = f_X10_settled_J138 GM (nI c') := by
    have a1 : f_X10_settled (YA 0) (YA 11) = f_X10_settled_J108 (YA 0) GM 0 := r1
    rw [a1]
    exact c2
  have eG : GM 63 = GC 63 := G_eq r2 q2 r3 q3 63 (by decide)
  have e3 : f_X10_settled_J138 GM (nI c') = some (6 - GC 63, GM) := by
    unfold f_X10_settled_J138
    by_cases z : c' = 0
    · have hz := (c3.mp z).2
      rw [if_pos (show nI c' = 0 by rw [z]; rfl), G_zero (fun p hp => hz p (Nat.zero_le p) hp) q2 q3 63 (by decide), show (6 : Int32) - nI (pcn 63) = 0 by decide]
    · rw [if_neg (nI_ne0 (by omega) (by omega)), gd_t (show ib 63 64 by decide), show Int32.toNatClampNeg 63 = 63 from rfl, eG]
  exact ⟨_, _, e1, e2.trans e3, rfl, ht, hc, hl, hbk, hi1, hi2⟩
end M51
