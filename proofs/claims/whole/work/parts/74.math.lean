section M74
/-! the class reads a line's parts -/
def pV (bt : Nat → Nat) (n p ch : Nat) : Int32 := if ch = 84 then lt' bt n p else nm bt n p
theorem ch_lt : ∀ j, j < 18 → ∀ i, i < (wd j).length → (wd j).getD i 0 < 256 := by decide +kernel
theorem rdC_step {n : Nat} {bt : Nat → Nat} {xb yt : Nat → Int32} (hT : okT n bt xb yt) {p : Nat} (hp : p ≤ n) {j i : Nat} (hj : j < 18) (hi : i < (wd j).length) (h3 : (wd j).length ≤ 3) (w h fa la nh nt : Int32) (gr wi lp : Nat → Int32) (line s st : Int32) (parts : Nat → Int32) (fu : Nat) : f_X5_readLine_L34 (nI n) xb w h fa la nh nt gr wi lp line j (fu + 1) (nI i) s st (nI p) parts = (f_X5_isWithin (upd parts i (pV bt n p ((wd j).getD i 0))) w h gr (nI ((wd j).getD i 0)) (pV bt n p ((wd j).getD i 0))).bind (fun z => if z = 0 then some (0, nI (so bt n p), nI (tq bt n p), nI (te bt n p), upd parts i (pV bt n p ((wd j).getD i 0)), w, h, fa, la, nh, nt, gr, wi, lp) else f_X5_readLine_L34 (nI n) xb w h fa la nh nt gr wi lp line j fu (nI (i + 1)) (nI (so bt n p)) (nI (tq bt n p)) (nI (te bt n p)) (upd parts i (pV bt n p ((wd j).getD i 0)))) := by
  have hstr : j < strN := by
    have : strN = 18 := rfl
    omega
  have hch := ch_lt j hj i hi
  rw [f_X5_readLine_L34, gd_t hstr, wd_len j hj, bN, if_neg (nI_ge hi (by omega)), if_neg (show ¬ (3 : Int32) ≤ nI i from nI_ge (b := 3) (by omega) (by decide)), nextC hT hp, bN, gd_t hstr, wd_char j hj i hi, bN]
  unfold f_X5_readLine_J85 pV
  simp only [letC hT hp, numC hT hp, bN, gd_t (ib_nI (show i < 3 by omega) (show 3 < 2 ^ 31 by decide)), nI_clamp (show i < 2 ^ 31 by omega), upd_same, st1]
  by_cases z : (wd j).getD i 0 = 84
  · rw [if_pos (show nI ((wd j).getD i 0) = 84 by rw [z]; rfl), if_pos z]
  · rw [if_neg (fun y : nI ((wd j).getD i 0) = 84 => z ((nI_eq (by omega) (by decide)).mp (show _ = nI 84 from y))), if_neg z]
theorem rdC_end {n : Nat} {xb : Nat → Int32} {j : Nat} (hj : j < 18) (h3 : (wd j).length ≤ 3) (w h fa la nh nt : Int32) (gr wi lp : Nat → Int32) (line s st en : Int32) (parts : Nat → Int32) (fu : Nat) : f_X5_readLine_L34 (nI n) xb w h fa la nh nt gr wi lp line j (fu + 1) (nI (wd j).length) s st en parts = f_X5_readLine_J111 s st en parts w h fa la nh nt gr wi lp line := by
  have hstr : j < strN := by
    have : strN = 18 := rfl
    omega
  rw [f_X5_readLine_L34, gd_t hstr, wd_len j hj, bN, if_pos (nI_le (Nat.le_refl _) (by omega))]
theorem rg1 (v lo hi : Int32) : (if v < lo then some (0 : Int32) else if hi < v then some 0 else some 1) = some (if lo ≤ v ∧ v ≤ hi then 1 else 0) := by
  by_cases h1 : v < lo
  · rw [if_pos h1, if_neg (fun z => absurd z.1 (Int32.not_le.mpr h1))]
  · rw [if_neg h1]
    by_cases h2 : hi < v
    · rw [if_pos h2, if_neg (fun z => absurd z.2 (Int32.not_le.mpr h2))]
    · rw [if_neg h2, if_pos ⟨Int32.not_lt.mp h1, Int32.not_lt.mp h2⟩]
theorem nI_succ_le {m : Nat} (hm : m + 1 < 2 ^ 31) (v : Int32) : nI (m + 1) ≤ v ↔ nI m < v := by
  rw [Int32.le_iff_toInt_le, Int32.lt_iff_toInt_lt, nI_toInt hm, nI_toInt (by omega)]
  omega
theorem rg2 (v lo : Int32) {m : Nat} (hm : m + 1 < 2 ^ 31) : (if v < lo then some (0 : Int32) else if nI (m + 1) ≤ v then some 0 else some 1) = some (if lo ≤ v ∧ v ≤ nI m then 1 else 0) := by
  rw [← rg1]
  by_cases h1 : v < lo
  · rw [if_pos h1, if_pos h1]
  · rw [if_neg h1, if_neg h1]
    by_cases h2 : nI m < v
    · rw [if_pos h2, if_pos ((nI_succ_le hm v).mpr h2)]
    · rw [if_neg h2, if_neg (fun z => h2 ((nI_succ_le hm v).mp z))]
theorem wn_A (parts gr : Nat → Int32) (w h v : Int32) : f_X5_isWithin parts w h gr (nI 65) v = some (if 0 ≤ v ∧ v ≤ 9 then 1 else 0) := by
  rw [← rg1]; rfl
theorem wn_D (parts gr : Nat → Int32) (w h v : Int32) : f_X5_isWithin parts w h gr (nI 68) v = some (if 0 ≤ v ∧ v ≤ 60 then 1 else 0) := by
  rw [← rg1]; rfl
theorem wn_H (parts gr : Nat → Int32) (w h v : Int32) : f_X5_isWithin parts w h gr (nI 72) v = some (if 0 ≤ v ∧ v ≤ 23 then 1 else 0) := by
  have := rg2 v 0 (m := 23) (by decide)
  have e : (if v < 0 then some (0 : Int32) else if nI (23 + 1) ≤ v then some 0 else some 1) = f_X5_isWithin parts w h gr (nI 72) v := rfl
  rw [← e]; exact this
theorem wn_L (parts gr : Nat → Int32) (w h v : Int32) : f_X5_isWithin parts w h gr (nI 76) v = some (if 1 ≤ v ∧ v ≤ 99 then 1 else 0) := by
  rw [← rg1]; rfl
theorem wn_N (parts gr : Nat → Int32) (w h v : Int32) : f_X5_isWithin parts w h gr (nI 78) v = some (if 1 ≤ v ∧ v ≤ 9 then 1 else 0) := by
  rw [← rg1]; rfl
theorem wn_S (parts gr : Nat → Int32) (w h v : Int32) : f_X5_isWithin parts w h gr (nI 83) v = some (if 0 ≤ v ∧ v ≤ 99 then 1 else 0) := by
  rw [← rg1]; rfl
theorem wn_T (parts gr : Nat → Int32) (w h v : Int32) : f_X5_isWithin parts w h gr (nI 84) v = some (if 0 ≤ v ∧ v ≤ 5 then 1 else 0) := by
  have := rg2 v 0 (m := 5) (by decide)
  have e : (if v < 0 then some (0 : Int32) else if nI (5 + 1) ≤ v then some 0 else some 1) = f_X5_isWithin parts w h gr (nI 84) v := rfl
  rw [← e]; exact this
theorem wn_W (parts gr : Nat → Int32) (w h v : Int32) : f_X5_isWithin parts w h gr (nI 87) v = some (if 1 ≤ v ∧ v ≤ 6 then 1 else 0) := by
  rw [← rg1]; rfl
theorem wn_X (parts gr : Nat → Int32) (h v : Int32) {a : Nat} (ha1 : 1 ≤ a) (ha : a ≤ 6) : f_X5_isWithin parts (nI a) h gr (nI 88) v = some (if 0 ≤ v ∧ v ≤ nI a - 1 then 1 else 0) := by
  have := rg2 v 0 (m := a - 1) (by omega)
  rw [show a - 1 + 1 = a by omega] at this
  rw [show nI a - 1 = nI (a - 1) from nI_sub' (b := 1) ha1]
  exact this
theorem wn_Y (parts gr : Nat → Int32) (w v : Int32) {b : Nat} (hb1 : 1 ≤ b) (hb : b ≤ 6) : f_X5_isWithin parts w (nI b) gr (nI 89) v = some (if 0 ≤ v ∧ v ≤ nI b - 1 then 1 else 0) := by
  have := rg2 v 0 (m := b - 1) (by omega)
  rw [show b - 1 + 1 = b by omega] at this
  rw [show nI b - 1 = nI (b - 1) from nI_sub' (b := 1) hb1]
  exact this
theorem cell_lt {a b x y : Nat} (hx : x < a) (hy : y < b) : a * y + x < a * b := by
  have : a * y + a ≤ a * b := by rw [← Nat.mul_succ]; exact Nat.mul_le_mul_left a hy
  omega
theorem cellAtC {a b x y : Nat} (ha : a ≤ 6) (hb : b ≤ 6) (hx : x < a) (hy : y < b) : f_X2_cellAt (nI a) (nI b) (nI x) (nI y) = some (nI (a * y + x)) := by
  unfold f_X2_cellAt
  rw [if_neg (nI_pos (by omega)), if_neg (nI_ge hx (by omega)), if_neg (nI_pos (by omega)), if_pos (nI_lt hy (by omega)), nI_mul, nI_add]
theorem wn_F {parts gr : Nat → Int32} {a b x : Nat} (ha1 : 1 ≤ a) (ha : a ≤ 6) (hb1 : 1 ≤ b) (hb : b ≤ 6) (hx : x < a) (hp1 : parts 1 = nI x) (v : Int32) : (¬ (0 ≤ v ∧ v ≤ nI b - 1) ∧ f_X5_isWithin parts (nI a) (nI b) gr (nI 70) v = some 0) ∨ ∃ y, y < b ∧ v = nI y ∧ f_X5_isWithin parts (nI a) (nI b) gr (nI 70) v = some (if gr (a * y + x) = -1 then 1 else 0) := by
  have e : f_X5_isWithin parts (nI a) (nI b) gr (nI 70) v = (f_X2_cellAt (nI a) (nI b) (parts 1) v).bind (fun z178 => (f_X2_isFloor (nI a) (nI b) gr z178).bind (fun z181 => (gd (z181 = 0 ∨ z181 = 1) (some z181)))) := rfl
  rw [e, hp1]
  by_cases q : 0 ≤ v ∧ v ≤ nI b - 1
  · obtain ⟨y, hy, rfl⟩ := bnd hb1 (by omega) q
    refine Or.inr ⟨y, hy, rfl, ?_⟩
    rw [cellAtC ha hb hx hy, bN, isFloorC gr rfl rfl ha hb (cell_lt hx hy), bN]
    by_cases z : gr (a * y + x) = -1
    · rw [if_pos z]; rfl
    · rw [if_neg z]; rfl
  · refine Or.inl ⟨q, ?_⟩
    have hc : f_X2_cellAt (nI a) (nI b) (nI x) v = some (-1) := by
      unfold f_X2_cellAt
      rw [if_neg (nI_pos (by omega)), if_neg (nI_ge hx (by omega))]
      by_cases h0 : v < 0
      · rw [if_pos h0]
      · rw [if_neg h0, if_neg]
        intro hlt
        refine q ⟨Int32.not_lt.mp h0, ?_⟩
        rw [show nI b - 1 = nI (b - 1) from nI_sub' (b := 1) hb1]
        obtain ⟨m, hm⟩ : ∃ m, b = m + 1 := ⟨b - 1, by omega⟩
        subst hm
        rw [Nat.add_sub_cancel]
        refine Int32.not_lt.mp (fun w => ?_)
        exact absurd hlt (Int32.not_lt.mpr ((nI_succ_le (by omega) v).mpr w))
    rw [hc, bN]
    rfl
theorem cellM {n : Nat} {bt : Nat → Nat} {xb yt : Nat → Int32} (hT : okT n bt xb yt) {p : Nat} (hp : p ≤ n) {k j : Nat} (hk : k ≤ 9) (hj : j ≤ 2) (rd rr : Nat → Int32) {a b : Nat} (ha1 : 1 ≤ a) (ha : a ≤ 6) (hb1 : 1 ≤ b) (hb : b ≤ 6) (fl : Int32) : (¬ (0 ≤ nm bt n p ∧ nm bt n p ≤ nI a - 1) ∧ f_X10_readsCell (nI n) (nI k) (nI (te bt n p)) (nI (tq bt n p)) (nI (te bt n p)) (nI a) (nI b) yt rd rr (nI j) fl = some (0, nI (te bt n p), nI (tq bt n p), nI (te bt n p), rd)) ∨ ∃ x, x < a ∧ nm bt n p = nI x ∧ ((¬ (0 ≤ nm bt n (te bt n p) ∧ nm bt n (te bt n p) ≤ nI b - 1) ∧ ∃ rd', f_X10_readsCell (nI n) (nI k) (nI (te bt n p)) (nI (tq bt n p)) (nI (te bt n p)) (nI a) (nI b) yt rd rr (nI j) fl = some (0, nI (te bt n (te bt n p)), nI (tq bt n (te bt n p)), nI (te bt n (te bt n p)), rd')) ∨ ∃ y, y < b ∧ nm bt n (te bt n p) = nI y ∧ ∃ rd', rd' (4 * k + 1 + j) = nI (a * y + x) ∧ (∀ i, i ≠ 4 * k + 1 + j → rd' i = rd i) ∧ f_X10_readsCell (nI n) (nI k) (nI (te bt n p)) (nI (tq bt n p)) (nI (te bt n p)) (nI a) (nI b) yt rd rr (nI j) fl = if fl = 0 then some (1, nI (te bt n (te bt n (te bt n p))), nI (tq bt n (te bt n (te bt n p))), nI (te bt n (te bt n (te bt n p))), rd') else if rr (a * y + x) = 0 then some (1, nI (te bt n (te bt n (te bt n p))), nI (tq bt n (te bt n (te bt n p))), nI (te bt n (te bt n (te bt n p))), rd') else some (0, nI (te bt n (te bt n (te bt n p))), nI (tq bt n (te bt n p)), nI (te bt n (te bt n (te bt n p))), rd')) := by
  have h36 := mul_le36 ha hb
  have he := te_le bt hp
  have he2 := te_le bt he.2.1
  unfold f_X10_readsCell
  rw [readsM hT hp hk hj rd (show (0 : Int32) ≤ 0 by decide)]
  by_cases q : 0 ≤ nm bt n p ∧ nm bt n p ≤ nI a - 1
  · obtain ⟨x, hx, ex⟩ := bnd ha1 (by omega) q
    refine Or.inr ⟨x, hx, ex, ?_⟩
    rw [if_pos q, bN]
    simp only [i10, ix4, gd_t (ib_nI (show 4 * k + 1 + j < 40 by omega) (show 40 < 2 ^ 31 by decide)), nI_clamp (show 4 * k + 1 + j < 2 ^ 31 by omega)]
    rw [readsM hT he.2.1 hk hj _ (show (0 : Int32) ≤ 0 by decide)]
    by_cases r : 0 ≤ nm bt n (te bt n p) ∧ nm bt n (te bt n p) ≤ nI b - 1
    · obtain ⟨y, hy, ey⟩ := bnd hb1 (by omega) r
      have hcl := cell_lt hx hy
      refine Or.inr ⟨y, hy, ey, upd (upd (upd rd (4 * k + 1 + j) (nm bt n p)) (4 * k + 1 + j) (nm bt n (te bt n p))) (4 * k + 1 + j) (nI (a * y + x)), upd_same _ _ _, fun i hi => ?_, ?_⟩
      · rw [upd_ne _ _ hi, upd_ne _ _ hi, upd_ne _ _ hi]
      · rw [if_pos r, bN]
        simp only [i10, upd_same, ex, ey, nI_mul, nI_add, gd_t (ib_nI (show a * y + x < 36 by omega) (show 36 < 2 ^ 31 by decide)), nI_clamp (show a * y + x < 2 ^ 31 by omega)]
    · refine Or.inl ⟨r, upd rd (4 * k + 1 + j) (nm bt n p), ?_⟩
      rw [if_neg r, bN]
      exact if_pos rfl
  · refine Or.inl ⟨q, ?_⟩
    rw [if_neg q, bN]
    exact if_pos rfl
end M74
