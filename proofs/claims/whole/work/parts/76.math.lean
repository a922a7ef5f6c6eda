section M76
/-! a line, class and reference -/
def tl (rd : Nat → Int32) (s0 : TS) : Nat → Option TS
  | 0 => some s0
  | k + 1 => (tl rd s0 k).bind (fun s => tellS s rd (nI (4 * k)))
def RdS (w h fa la nh nt : Int32) (gr wi lp : Nat → Int32) (rW rH rL : Int32) (rr rd : Nat → Int32) (k : Nat) (s0 : TS) : Prop := rW = w ∧ rH = h ∧ rL = la ∧ (∀ c, c < 36 → rr c = if gr c = -1 then 0 else 1) ∧ ∃ s : TS, TR w h fa la nh nt gr wi lp s ∧ ∀ rd', (∀ i, i < 4 * k → rd' i = rd i) → tl rd' s0 k = some s
theorem RdS_mk {w h fa la nh nt : Int32} {gr wi lp rr rd rd' : Nat → Int32} {k : Nat} {s0 s s' : TS} (htl : ∀ rd', (∀ i, i < 4 * k → rd' i = rd i) → tl rd' s0 k = some s) (hag : ∀ i, i < 4 * k → rd' i = rd i) (hte : ∀ rd2, (∀ i, 4 * k ≤ i → i < 4 * k + 4 → rd2 i = rd' i) → tellS s rd2 (nI (4 * k)) = some s') (hTR : TR w h fa la nh nt gr wi lp s') (hrr : ∀ c, c < 36 → rr c = if gr c = -1 then 0 else 1) : RdS w h fa la nh nt gr wi lp w h la rr rd' (k + 1) s0 := by
  refine ⟨rfl, rfl, rfl, hrr, s', hTR, fun rd2 h2 => ?_⟩
  rw [tl, htl rd2 (fun i hi => (h2 i (by omega)).trans (hag i hi)), bN]
  exact hte rd2 (fun i h1 h3 => h2 i (by omega))
theorem TR_ab {w h fa la nh nt : Int32} {gr wi lp : Nat → Int32} {s : TS} (H : TR w h fa la nh nt gr wi lp s) : ∃ a b m : Nat, 1 ≤ a ∧ a ≤ 6 ∧ 1 ≤ b ∧ b ≤ 6 ∧ m ≤ 6 ∧ w = nI a ∧ h = nI b ∧ la = nI m := by
  obtain ⟨⟨a, b, q1, q2, q3, q4, q5, q6, -⟩, hl1, hl2, hl3, hl4, hl5, hl6, m, hm, hl7, -⟩ := H
  exact ⟨a, b, m, q1, q2, q3, q4, hm, q5, q6, hl7⟩
abbrev RC := Int32 × Int32 × Int32 × Int32 × (Nat → Int32) × Int32 × Int32 × Int32 × Int32 × Int32 × Int32 × (Nat → Int32) × (Nat → Int32) × (Nat → Int32)
abbrev RM := Int32 × Int32 × Int32 × Int32 × Int32 × Int32 × Int32 × Int32 × (Nat → Int32) × (Nat → Int32)
def LnOut (bt : Nat → Nat) (n k : Nat) (s0 : TS) (z1 : Option RC) (z2 : Option RM) : Prop := (∃ y1 y2, z1 = some y1 ∧ z2 = some y2 ∧ y1.1 = 0 ∧ y2.1 = 0 ∧ ∃ q : Nat, q ≤ 200 ∧ y1.2.2.1 = nI q ∧ y2.2.2.2.1 = nI q) ∨ ∃ (p' : Nat) (s q : Int32) (parts : Nat → Int32) (w h fa la nh nt : Int32) (gr wi lp rd rr : Nat → Int32), p' ≤ n ∧ z1 = some (1, s, q, nI p', parts, w, h, fa, la, nh, nt, gr, wi, lp) ∧ z2 = some (1, nI (k + 1), nI (te bt n p'), nI (tq bt n p'), nI (te bt n p'), w, h, la, rd, rr) ∧ RdS w h fa la nh nt gr wi lp w h la rr rd (k + 1) s0
def fj (k : Nat) : Nat := ([9, 10, 11, 12, 13, 14, 17, 15, 16] : List Nat).getD k 0
theorem fj_C : ∀ k, k < 9 → f_X5_formsOf (nI (k + 1)) = some (fj k) := by decide +kernel
theorem rlC {n : Nat} {bt : Nat → Nat} {xb yt : Nat → Int32} (hT : okT n bt xb yt) {p : Nat} (hp : p ≤ n) {K : Nat} (hK : K < 9) (hlk : lk bt n p = some K) (parts : Nat → Int32) (w h fa la nh nt : Int32) (gr wi lp : Nat → Int32) (h6 : K = 5 → la < 6) : f_X5_readLine (nI (so bt n p)) (nI (tq bt n p)) (nI (te bt n p)) (nI n) xb parts w h fa la nh nt gr wi lp = f_X5_readLine_L34 (nI n) xb w h fa la nh nt gr wi lp (nI (K + 1)) (fj K) (4996 + 1 + 1 + 1 + 1) (nI 0) (nI (so bt n p)) (nI (tq bt n p)) (nI (te bt n p)) parts := by
  have J : f_X5_readLine_J26 (nI (so bt n p)) (nI (tq bt n p)) (nI (te bt n p)) (nI n) xb parts w h fa la nh nt gr wi lp (nI (K + 1)) = f_X5_readLine_L34 (nI n) xb w h fa la nh nt gr wi lp (nI (K + 1)) (fj K) (4996 + 1 + 1 + 1 + 1) (nI 0) (nI (so bt n p)) (nI (tq bt n p)) (nI (te bt n p)) parts := by
    unfold f_X5_readLine_J26
    rw [fj_C K hK, bN]
    rfl
  unfold f_X5_readLine
  rw [lineC hT hp, hlk, show oC (some K) = nI (K + 1) from rfl, bN, if_neg (nI_ne0 (by omega) (by omega)), J]
  by_cases z : K = 5
  · rw [if_pos (show nI (K + 1) = 6 by rw [z]; rfl), if_pos (h6 z)]
  · rw [if_neg (fun y : nI (K + 1) = 6 => z (by have := (nI_eq (by omega) (by decide)).mp (show nI (K + 1) = nI 6 from y); omega))]
theorem rlM {n : Nat} {bt : Nat → Nat} {xb yt : Nat → Int32} (hT : okT n bt xb yt) {p : Nat} (hp : p ≤ n) {k : Nat} (hk : k ≤ 9) {K : Nat} (hK : K < 9) (hlk : lk bt n p = some K) (rW rH rL : Int32) (rd rr : Nat → Int32) (h6 : K = 5 → ¬ rL = 6) : f_X10_readsLine (nI n) (nI k) (nI (te bt n p)) (nI (tq bt n p)) (nI (te bt n p)) rW rH rL yt rd rr = f_X10_readsLine_J26 (nI n) (nI k) (nI (te bt n p)) (nI (tq bt n p)) (nI (te bt n p)) rW rH rL yt rd rr (nI K) := by
  unfold f_X10_readsLine
  rw [wordM hT hp, hlk, show oM (some K) = nI K from rfl, bN, if_neg (nI_ne1 (by omega))]
  by_cases z : K = 5
  · rw [if_pos (show nI K = 5 by rw [z]; rfl), if_neg (h6 z)]
  · rw [if_neg (fun y : nI K = 5 => z ((nI_eq (by omega) (by decide)).mp (show nI K = nI 5 from y)))]
theorem b4k (k : Nat) : 4 * nI k = nI (4 * k) := nI_mul 4 k
theorem J26_fail {n : Nat} {bt : Nat → Nat} {xb yt : Nat → Int32} (hT : okT n bt xb yt) {p : Nat} (hp : p ≤ n) {k : Nat} (hk : k ≤ 9) {K : Nat} (rW rH rL : Int32) (rd rr : Nat → Int32) {at' pl en : Int32} {rd' : Nat → Int32} (hr : f_X10_readsRest (nI n) (nI k) (nI (te bt n (te bt n p))) (nI (tq bt n (te bt n p))) (nI (te bt n (te bt n p))) rW rH yt (upd rd (4 * k) (nI K)) rr (nI K) = some (0, at', pl, en, rd')) : f_X10_readsLine_J26 (nI n) (nI k) (nI (te bt n p)) (nI (tq bt n p)) (nI (te bt n p)) rW rH rL yt rd rr (nI K) = some (0, nI k, at', pl, en, rW, rH, rL, rd', rr) := by
  have he := te_le bt hp
  unfold f_X10_readsLine_J26
  rw [tokM hT he.2.1, bN, b4k, gd_t (ib_nI (show 4 * k < 40 by omega) (by decide)), nI_clamp (by omega), hr, bN]
  exact if_pos rfl
theorem J26_ok {n : Nat} {bt : Nat → Nat} {xb yt : Nat → Int32} (hT : okT n bt xb yt) {p : Nat} (hp : p ≤ n) {k : Nat} (hk : k ≤ 9) {K : Nat} (hK3 : 3 ≤ K) (hK : K < 9) (rW rH rL : Int32) (rd rr : Nat → Int32) {at' pl en : Int32} {rd' : Nat → Int32} (hr : f_X10_readsRest (nI n) (nI k) (nI (te bt n (te bt n p))) (nI (tq bt n (te bt n p))) (nI (te bt n (te bt n p))) rW rH yt (upd rd (4 * k) (nI K)) rr (nI K) = some (1, at', pl, en, rd')) : f_X10_readsLine_J26 (nI n) (nI k) (nI (te bt n p)) (nI (tq bt n p)) (nI (te bt n p)) rW rH rL yt rd rr (nI K) = some (1, nI (k + 1), at', pl, en, rW, rH, (if K = 6 then 0 else if K = 5 then rL + 1 else rL), rd', rr) := by
  have he := te_le bt hp
  have ne : ∀ j, j < 9 → ¬ K = j → ¬ nI K = nI j := fun j hj h y => h ((nI_eq (by omega) (by omega)).mp y)
  unfold f_X10_readsLine_J26
  rw [tokM hT he.2.1, bN, b4k, gd_t (ib_nI (show 4 * k < 40 by omega) (by decide)), nI_clamp (by omega), hr, bN]
  show (if (1 : Int32) = 0 then _ else if nI K = 0 then _ else if nI K = 1 then _ else if nI K = 2 then _ else f_X10_readsLine_J139 (nI k) at' pl en rW rH rL rd' rr (nI K)) = _
  rw [i10, if_neg (show ¬ nI K = 0 from ne 0 (by decide) (by omega)), if_neg (show ¬ nI K = 1 from ne 1 (by decide) (by omega)), if_neg (show ¬ nI K = 2 from ne 2 (by decide) (by omega))]
  unfold f_X10_readsLine_J139 f_X10_readsLine_J168
  rw [st1]
  by_cases z6 : K = 6
  · rw [if_pos (show nI K = 6 by rw [z6]; rfl), if_pos z6]
  · rw [if_neg (show ¬ nI K = 6 from ne 6 (by decide) z6), if_neg z6]
    by_cases z5 : K = 5
    · rw [if_pos (show nI K = 5 by rw [z5]; rfl), if_pos z5]
    · rw [if_neg (show ¬ nI K = 5 from ne 5 (by decide) z5), if_neg z5]
theorem J26_ok12 {n : Nat} {bt : Nat → Nat} {xb yt : Nat → Int32} (hT : okT n bt xb yt) {p : Nat} (hp : p ≤ n) {k : Nat} (hk : k ≤ 9) {K : Nat} (hK : K = 1 ∨ K = 2) (rW rH rL : Int32) (rd rr : Nat → Int32) {at' pl en : Int32} {rd' : Nat → Int32} {c : Nat} (hc : c < 36) (hcell : rd' (4 * k + 1) = nI c) (hr : f_X10_readsRest (nI n) (nI k) (nI (te bt n (te bt n p))) (nI (tq bt n (te bt n p))) (nI (te bt n (te bt n p))) rW rH yt (upd rd (4 * k) (nI K)) rr (nI K) = some (1, at', pl, en, rd')) : f_X10_readsLine_J26 (nI n) (nI k) (nI (te bt n p)) (nI (tq bt n p)) (nI (te bt n p)) rW rH rL yt rd rr (nI K) = some (1, nI (k + 1), at', pl, en, rW, rH, rL, rd', upd rr c (if K = 1 then 1 else 0)) := by
  have he := te_le bt hp
  unfold f_X10_readsLine_J26
  rw [tokM hT he.2.1, bN, b4k, gd_t (ib_nI (show 4 * k < 40 by omega) (by decide)), nI_clamp (by omega), hr, bN]
  show (if (1 : Int32) = 0 then _ else if nI K = 0 then _ else if nI K = 1 then f_X10_readsLine_J116 (nI k) at' pl en rW rH rL rd' rr (nI K) (nI (4 * k)) else if nI K = 2 then f_X10_readsLine_J116 (nI k) at' pl en rW rH rL rd' rr (nI K) (nI (4 * k)) else _) = _
  have J : f_X10_readsLine_J116 (nI k) at' pl en rW rH rL rd' rr (nI K) (nI (4 * k)) = some (1, nI (k + 1), at', pl, en, rW, rH, rL, rd', upd rr c (if K = 1 then 1 else 0)) := by
    unfold f_X10_readsLine_J116 f_X10_readsLine_J138 f_X10_readsLine_J139 f_X10_readsLine_J168
    simp only [(b4 k).1, gd_t (ib_nI (show 4 * k + 1 < 40 by omega) (show 40 < 2 ^ 31 by decide)), nI_clamp (show 4 * k + 1 < 2 ^ 31 by omega), hcell, gd_t (ib_nI hc (show 36 < 2 ^ 31 by decide)), nI_clamp (show c < 2 ^ 31 by omega), st1]
    rcases hK with rfl | rfl
    · rfl
    · rfl
  rw [i10, J]
  rcases hK with rfl | rfl
  · rfl
  · rfl
theorem rr_L84 (mn at' pl en rW rH rL : Int32) (rd : Nat → Int32) (x1 : Int32) : ∀ (d j fu : Nat) (rr : Nat → Int32), j + d = 36 → d < fu → ∃ rr', f_X10_readsLine_L84 mn at' pl en rW rH rL rd x1 fu (nI j) rr = f_X10_readsLine_J103 mn at' pl en rW rH rL rd rr' x1 ∧ ∀ c, rr' c = if j ≤ c ∧ c < 36 then 0 else rr c := by
  intro d
  induction d with
  | zero =>
    intro j fu rr hj hfu
    obtain ⟨fu, rfl⟩ : ∃ m, fu = m + 1 := ⟨fu - 1, by omega⟩
    have : j = 36 := by omega
    subst this
    exact ⟨rr, by rw [f_X10_readsLine_L84, if_pos (show (36 : Int32) ≤ nI 36 by decide)], fun c => by rw [if_neg (by omega)]⟩
  | succ d ih =>
    intro j fu rr hj hfu
    obtain ⟨fu, rfl⟩ : ∃ m, fu = m + 1 := ⟨fu - 1, by omega⟩
    obtain ⟨rr', h1, h2⟩ := ih (j + 1) fu (upd rr j 0) (by omega) (by omega)
    refine ⟨rr', ?_, fun c => ?_⟩
    · rw [← h1, f_X10_readsLine_L84, if_neg (show ¬ (36 : Int32) ≤ nI j from nI_ge (b := 36) (by omega) (by decide)), gd_t (ib_nI (show j < 36 by omega) (by decide)), st1, nI_clamp (by omega), show vp_nar .boolean 0 = 0 from rfl]
    · rw [h2]
      by_cases q : c = j
      · subst q
        rw [if_neg (by omega), if_pos (by omega), upd_same]
      · rw [upd_ne _ _ q]
        by_cases q2 : j ≤ c ∧ c < 36
        · rw [if_pos (by omega), if_pos q2]
        · rw [if_neg (by omega), if_neg q2]
theorem J26_ok0 {n : Nat} {bt : Nat → Nat} {xb yt : Nat → Int32} (hT : okT n bt xb yt) {p : Nat} (hp : p ≤ n) {k : Nat} (hk : k ≤ 9) (rW rH rL : Int32) (rd rr : Nat → Int32) {at' pl en : Int32} {rd' : Nat → Int32} (hr : f_X10_readsRest (nI n) (nI k) (nI (te bt n (te bt n p))) (nI (tq bt n (te bt n p))) (nI (te bt n (te bt n p))) rW rH yt (upd rd (4 * k) (nI 0)) rr (nI 0) = some (1, at', pl, en, rd')) : ∃ rr', f_X10_readsLine_J26 (nI n) (nI k) (nI (te bt n p)) (nI (tq bt n p)) (nI (te bt n p)) rW rH rL yt rd rr (nI 0) = some (1, nI (k + 1), at', pl, en, rd' (4 * k + 1), rd' (4 * k + 2), rL, rd', rr') ∧ ∀ c, c < 36 → rr' c = 0 := by
  have he := te_le bt hp
  obtain ⟨rr', t1, t2⟩ := rr_L84 (nI k) at' pl en (rd' (4 * k + 1)) (rd' (4 * k + 2)) rL rd' (nI 0) 36 0 FU rr (by decide) (by decide)
  refine ⟨rr', ?_, fun c hc => by rw [t2, if_pos ⟨Nat.zero_le _, hc⟩]⟩
  unfold f_X10_readsLine_J26
  rw [tokM hT he.2.1, bN, b4k, gd_t (ib_nI (show 4 * k < 40 by omega) (by decide)), nI_clamp (by omega), hr, bN]
  show (if (1 : Int32) = 0 then _ else if nI 0 = 0 then gd (ib (nI (4 * k) + 1) 40) (gd (ib (nI (4 * k) + 2) 40) (f_X10_readsLine_L84 (nI k) at' pl en (rd' (Int32.toNatClampNeg (nI (4 * k) + 1))) (rd' (Int32.toNatClampNeg (nI (4 * k) + 2))) rL rd' (nI 0) FU 0 rr)) else _) = _
  rw [i10, if_pos (show nI 0 = 0 from rfl)]
  simp only [(b4 k).1, (b4 k).2.1, gd_t (ib_nI (show 4 * k + 1 < 40 by omega) (show 40 < 2 ^ 31 by decide)), gd_t (ib_nI (show 4 * k + 2 < 40 by omega) (show 40 < 2 ^ 31 by decide)), nI_clamp (show 4 * k + 1 < 2 ^ 31 by omega), nI_clamp (show 4 * k + 2 < 2 ^ 31 by omega)]
  have t1' : f_X10_readsLine_L84 (nI k) at' pl en (rd' (4 * k + 1)) (rd' (4 * k + 2)) rL rd' (nI 0) FU 0 rr = _ := t1
  rw [t1']
  unfold f_X10_readsLine_J103 f_X10_readsLine_J139 f_X10_readsLine_J168
  rw [st1]
  rfl
/-- one numbered part of a line, class -/
theorem rdN {n : Nat} {bt : Nat → Nat} {xb yt : Nat → Int32} (hT : okT n bt xb yt) {p : Nat} (hp : p ≤ n) {j i : Nat} (hj : j < 18) (hi : i < (wd j).length) (h3 : (wd j).length ≤ 3) (w h fa la nh nt : Int32) (gr wi lp : Nat → Int32) (line s st : Int32) (parts : Nat → Int32) (fu : Nat) {lo hi' : Int32} {v : Int32} (hv : pV bt n p ((wd j).getD i 0) = v) (hw : f_X5_isWithin (upd parts i v) w h gr (nI ((wd j).getD i 0)) v = some (if lo ≤ v ∧ v ≤ hi' then 1 else 0)) : (¬ (lo ≤ v ∧ v ≤ hi') → f_X5_readLine_L34 (nI n) xb w h fa la nh nt gr wi lp line j (fu + 1) (nI i) s st (nI p) parts = some (0, nI (so bt n p), nI (tq bt n p), nI (te bt n p), upd parts i v, w, h, fa, la, nh, nt, gr, wi, lp)) ∧ (lo ≤ v ∧ v ≤ hi' → f_X5_readLine_L34 (nI n) xb w h fa la nh nt gr wi lp line j (fu + 1) (nI i) s st (nI p) parts = f_X5_readLine_L34 (nI n) xb w h fa la nh nt gr wi lp line j fu (nI (i + 1)) (nI (so bt n p)) (nI (tq bt n p)) (nI (te bt n p)) (upd parts i v)) := by
  rw [rdC_step hT hp hj hi h3, hv, hw, bN]
  refine ⟨fun q => ?_, fun q => ?_⟩
  · rw [if_neg q, i00]
  · rw [if_pos q, i10]
theorem bz {α β : Type} (x : α) (F G : Int32 × α → Option β) : ((some ((0 : Int32), x)).bind (fun z => if z.1 = 0 then F z else G z)) = F (0, x) := by
  rw [bN]
  exact if_pos rfl
theorem bo {α β : Type} (x : α) (F G : Int32 × α → Option β) : ((some ((1 : Int32), x)).bind (fun z => if z.1 = 0 then F z else G z)) = G (1, x) := by
  rw [bN]
  exact if_neg (show ¬ (1 : Int32) = 0 by decide)
theorem q200 {n : Nat} {bt : Nat → Nat} {xb yt : Nat → Int32} (hT : okT n bt xb yt) {p : Nat} (hp : p ≤ n) : tq bt n p ≤ 200 := by
  have := tq_le bt hp
  have := hT.1
  omega
end M76
