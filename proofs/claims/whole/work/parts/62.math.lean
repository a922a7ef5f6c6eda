section M62
/-! fines -/
def cf (lp : Nat → Int32) (l t : Int32) : Nat → Nat → Int32
  | 0, _ => 0
  | d + 1, k => if l < lp (3 * k) then cf lp l t d (k + 1) else if t < lp (3 * k + 1) then cf lp l t d (k + 1) else lp (3 * k + 2)
theorem coins_L (lp : Nat → Int32) {N : Nat} (hN : N ≤ 6) (l t : Int32) : ∀ (d k n : Nat), k + d = N → d < n → f_X2_coinsFor_L2 (nI N) lp l t n (nI k) = some (cf lp l t d k) := by
  intro d
  induction d with
  | zero =>
    intro k n hk hn
    obtain ⟨n, rfl⟩ : ∃ m, n = m + 1 := ⟨n - 1, by omega⟩
    have : k = N := by omega
    subst this
    rw [f_X2_coinsFor_L2, if_pos (nI_le (Nat.le_refl _) (by omega))]
    rfl
  | succ d ih =>
    intro k n hk hn
    obtain ⟨n, rfl⟩ : ∃ m, n = m + 1 := ⟨n - 1, by omega⟩
    have p0 : f_X2_lawPart (nI N) lp (nI k) 0 = some (lp (3 * k)) := lawPart_nI lp rfl hN (show k < N by omega) (j := 0) (by decide)
    have p1 : f_X2_lawPart (nI N) lp (nI k) 1 = some (lp (3 * k + 1)) := lawPart_nI lp rfl hN (show k < N by omega) (j := 1) (by decide)
    have p2 : f_X2_lawPart (nI N) lp (nI k) 2 = some (lp (3 * k + 2)) := lawPart_nI lp rfl hN (show k < N by omega) (j := 2) (by decide)
    rw [f_X2_coinsFor_L2, if_neg (nI_ge (show k < N by omega) (by omega)), cf]
    unfold f_X2_coinsFor_J37 f_X2_coinsFor_J30
    rw [p0, bN, p1, bN, p2, bN, st1, ih (k + 1) n (by omega) (by omega)]
    by_cases q1 : l < lp (3 * k)
    · rw [if_pos q1, if_pos q1]
    · rw [if_neg q1, if_neg q1]
      by_cases q2 : t < lp (3 * k + 1)
      · rw [if_pos q2, if_pos q2]
      · rw [if_neg q2, if_neg q2]
theorem coinsC (lp : Nat → Int32) {N : Nat} (hN : N ≤ 6) (l t : Int32) : f_X2_coinsFor (nI N) lp l t = some (cf lp l t N 0) := coins_L lp hN l t N 0 FU (Nat.zero_add _) (by have : FU = 5000 := rfl; omega)
def okL (N : Nat) (lp yl : Nat → Int32) : Prop := N ≤ 6 ∧ ∀ i, i < N → yl (3 * i) = lp (3 * i) ∧ yl (3 * i + 1) = lp (3 * i + 1) ∧ yl (3 * i + 2) = lp (3 * i + 2) ∧ ∃ c : Nat, c ≤ 99 ∧ lp (3 * i + 2) = nI c
theorem cf_le {N : Nat} {lp yl : Nat → Int32} (h : okL N lp yl) (l t : Int32) : ∀ d k, k + d = N → ∃ c : Nat, c ≤ 99 ∧ cf lp l t d k = nI c := by
  intro d
  induction d with
  | zero => intro k _; exact ⟨0, by decide, rfl⟩
  | succ d ih =>
    intro k hk
    rw [cf]
    by_cases q1 : l < lp (3 * k)
    · rw [if_pos q1]; exact ih _ (by omega)
    · rw [if_neg q1]
      by_cases q2 : t < lp (3 * k + 1)
      · rw [if_pos q2]; exact ih _ (by omega)
      · rw [if_neg q2]; exact (h.2 k (by omega)).2.2.2
def tI (nh nt hour : Int32) : Int32 := if ((nh >>> (hour &&& 31)) &&& 1) = 1 then nt else 1
theorem timesInC (nh nt hour : Int32) : f_X2_timesIn nh nt hour = some (tI nh nt hour) := by
  unfold f_X2_timesIn tI
  by_cases h : ((nh >>> (hour &&& 31)) &&& 1) = 1
  · rw [if_pos h, if_pos h]
  · rw [if_neg h, if_neg h]
theorem fineOf_L {N : Nat} {lp yl : Nat → Int32} (h : okL N lp yl) (nh nt hour : Int32) (ti lo : Nat → Int32) {i : Nat} (hi : i < 480) : ∀ (d k n : Nat), k + d = N → d < n → f_X10_fineOf_L2 (nI N) nh nt yl ti lo (nI i) hour n (nI k) = some (cf lp (lo i) (ti i) d k * tI nh nt hour) := by
  have hN := h.1
  intro d
  induction d with
  | zero =>
    intro k n hk hn
    obtain ⟨n, rfl⟩ : ∃ m, n = m + 1 := ⟨n - 1, by omega⟩
    have : k = N := by omega
    subst this
    rw [f_X10_fineOf_L2, if_pos (nI_le (Nat.le_refl _) (by omega)), cf, Int32.zero_mul]
  | succ d ih =>
    intro k n hk hn
    obtain ⟨n, rfl⟩ : ∃ m, n = m + 1 := ⟨n - 1, by omega⟩
    obtain ⟨g1, g2, g3, -⟩ := h.2 k (by omega)
    have c0 : (3 : Int32) * nI k = nI (3 * k) := nI_mul 3 k
    have c1 : nI (3 * k) + 1 = nI (3 * k + 1) := nI_add (3 * k) 1
    have c2 : nI (3 * k) + 2 = nI (3 * k + 2) := nI_add (3 * k) 2
    rw [f_X10_fineOf_L2, if_neg (nI_ge (show k < N by omega) (by omega)), cf]
    unfold f_X10_fineOf_J77 f_X10_fineOf_J46 f_X10_fineOf_J75 f_X10_has
    simp only [c0, c1, c2, gd_t (ib_nI hi (by decide)), gd_t (ib_nI (show 3 * k < 18 by omega) (by decide)), gd_t (ib_nI (show 3 * k + 1 < 18 by omega) (by decide)), gd_t (ib_nI (show 3 * k + 2 < 18 by omega) (by decide)), nI_clamp (show i < 2 ^ 31 by omega), nI_clamp (show 3 * k < 2 ^ 31 by omega), nI_clamp (show 3 * k + 1 < 2 ^ 31 by omega), nI_clamp (show 3 * k + 2 < 2 ^ 31 by omega), g1, g2, g3, st1, ih (k + 1) n (by omega) (by omega)]
    by_cases q1 : lo i < lp (3 * k)
    · rw [if_pos q1, if_pos q1]
    · rw [if_neg q1, if_neg q1]
      by_cases q2 : ti i < lp (3 * k + 1)
      · rw [if_pos q2, if_pos q2]
      · rw [if_neg q2, if_neg q2]
        unfold tI
        by_cases q3 : ((nh >>> (hour &&& 31)) &&& 1) = 1
        · rw [if_pos q3, if_pos q3, bN, i10]
        · rw [if_neg q3, if_neg q3, bN, i00]
theorem fineOfM {N : Nat} {lp yl : Nat → Int32} (h : okL N lp yl) (nh nt hour : Int32) (ti lo : Nat → Int32) {i : Nat} (hi : i < 480) : f_X10_fineOf (nI N) nh nt yl ti lo (nI i) hour = some (cf lp (lo i) (ti i) N 0 * tI nh nt hour) := fineOf_L h nh nt hour ti lo hi N 0 FU (Nat.zero_add _) (by have : FU = 5000 := rfl; have := h.1; omega)
def gF (lp : Nat → Int32) (N c : Nat) (s : Int32) (e : Nat × Nat × Nat × Nat × Nat) : Int32 := if e.1 = c then (if e.2.2.2.1 = 0 then s else s + cf lp (nI e.2.2.1) (nI e.2.1) N 0) else s
def fs (lp : Nat → Int32) (N : Nat) (L : List (Nat × Nat × Nat × Nat × Nat)) (c : Nat) : Int32 := L.foldl (gF lp N c) 0
theorem fs_nI' {N : Nat} {lp yl : Nat → Int32} (h : okL N lp yl) (c : Nat) : ∀ (L : List (Nat × Nat × Nat × Nat × Nat)) (m0 : Nat), ∃ m : Nat, m ≤ m0 + 99 * L.length ∧ L.foldl (gF lp N c) (nI m0) = nI m := by
  intro L
  induction L with
  | nil => intro m0; exact ⟨m0, by simp, rfl⟩
  | cons e r ih =>
    intro m0
    rw [List.foldl_cons, List.length_cons]
    have : ∃ m1, m1 ≤ m0 + 99 ∧ gF lp N c (nI m0) e = nI m1 := by
      unfold gF
      by_cases q : e.1 = c
      · rw [if_pos q]
        by_cases q2 : e.2.2.2.1 = 0
        · rw [if_pos q2]; exact ⟨m0, by omega, rfl⟩
        · rw [if_neg q2]
          obtain ⟨c', hc', e'⟩ := cf_le h (nI e.2.2.1) (nI e.2.1) N 0 (Nat.zero_add _)
          rw [e', nI_add]
          exact ⟨_, by omega, rfl⟩
      · rw [if_neg q]; exact ⟨m0, by omega, rfl⟩
    obtain ⟨m1, h1, e1⟩ := this
    rw [e1]
    obtain ⟨m, h2, e2⟩ := ih m1
    exact ⟨m, by omega, e2⟩
theorem fs_nI {N : Nat} {lp yl : Nat → Int32} (h : okL N lp yl) (c : Nat) {L : List (Nat × Nat × Nat × Nat × Nat)} (hL : L.length ≤ 480) : ∃ m : Nat, m ≤ 47520 ∧ fs lp N L c = nI m := by
  obtain ⟨m, h1, h2⟩ := fs_nI' h c L 0
  exact ⟨m, by omega, h2⟩
/-! the bill -/
theorem fill_L (x : Int32) {N : Nat} (hN : N < 4000) : ∀ (d k fu : Nat) (v : Nat → Int32), k + d = N → d < fu → ∃ v', f_J7_fill_53178_L5 N x (nI N) fu (nI k) v = some v' ∧ ∀ i, v' i = if k ≤ i ∧ i < N then x else v i := by
  intro d
  induction d with
  | zero =>
    intro k fu v hk hn
    obtain ⟨fu, rfl⟩ : ∃ m, fu = m + 1 := ⟨fu - 1, by omega⟩
    have : k = N := by omega
    subst this
    refine ⟨v, by rw [f_J7_fill_53178_L5, if_pos (nI_le (Nat.le_refl _) (by omega))], fun i => ?_⟩
    rw [if_neg (by omega)]
  | succ d ih =>
    intro k fu v hk hn
    obtain ⟨fu, rfl⟩ : ∃ m, fu = m + 1 := ⟨fu - 1, by omega⟩
    obtain ⟨v', h1, h2⟩ := ih (k + 1) fu (upd v k x) (by omega) (by omega)
    refine ⟨v', ?_, fun i => ?_⟩
    · rw [f_J7_fill_53178_L5, if_neg (nI_ge (show k < N by omega) (by omega)), gd_t (ib_nI (show k < N by omega) (by omega)), nI_clamp (by omega), st1]
      exact h1
    · rw [h2]
      by_cases q : i = k
      · subst q
        rw [if_neg (by omega), if_pos (by omega), upd_same]
      · rw [upd_ne _ _ q]
        by_cases q2 : k ≤ i ∧ i < N
        · rw [if_pos (by omega), if_pos q2]
        · rw [if_neg (by omega), if_neg q2]
theorem fillC (x : Int32) {N : Nat} (hN : N < 4000) (v : Nat → Int32) : ∃ v', f_J7_fill_53178 N v x = some v' ∧ ∀ i, v' i = if i < N then x else v i := by
  obtain ⟨v', h1, h2⟩ := fill_L x hN N 0 FU v (Nat.zero_add _) (by have : FU = 5000 := rfl; omega)
  refine ⟨v', h1, fun i => ?_⟩
  rw [h2]
  by_cases q : i < N
  · rw [if_pos ⟨Nat.zero_le _, q⟩, if_pos q]
  · rw [if_neg (fun z => q z.2), if_neg q]
def gD (lp : Nat → Int32) (N : Nat) (due : Nat → Int32) (e : Nat × Nat × Nat × Nat × Nat) : Nat → Int32 := if e.2.2.2.1 = 0 then due else upd due e.1 (due e.1 + cf lp (nI e.2.2.1) (nI e.2.1) N 0)
theorem gD_at (lp : Nat → Int32) (N c : Nat) : ∀ (L : List (Nat × Nat × Nat × Nat × Nat)) (due : Nat → Int32), (L.foldl (gD lp N) due) c = L.foldl (gF lp N c) (due c) := by
  intro L
  induction L with
  | nil => intro due; rfl
  | cons e r ih =>
    intro due
    rw [List.foldl_cons, List.foldl_cons, ih]
    congr 1
    unfold gD gF
    by_cases q2 : e.2.2.2.1 = 0
    · rw [if_pos q2, if_pos q2]
      split <;> rfl
    · rw [if_neg q2, if_neg q2]
      by_cases q : e.1 = c
      · rw [if_pos q, q, upd_same]
      · rw [if_neg q, upd_ne _ _ (fun z => q z.symm)]
theorem drawUpC {W : Nat → List (Option (Nat × Nat × Nat))} {a b : Nat} (ha : a ≤ 6) (hb : b ≤ 6) {gr : Nat → Int32} (hW : okW W a b gr) {marks lasting : Nat → Int32} (hv : Wv W 8 marks lasting) {N : Nat} (hN : N ≤ 6) (lp due : Nat → Int32) : ∃ due', f_X0_drawUp due (nI N) lp marks lasting = some due' ∧ ∀ c, c < 36 → due' c = fs lp N (lsU W 8) c := by
  obtain ⟨d0, k1, k2⟩ := fillC 0 (show 36 < 4000 by decide) due
  have key : ∀ d1, f_X0_drawUp_L10 (nI N) lp marks lasting FU 0 d1 = some ((lsU W 8).foldl (gD lp N) d1) := fun d1 => by
    refine g_out W (gD lp N) (fun n s x => f_X0_drawUp_L10 (nI N) lp marks lasting n x s) (fun s => some s) (fun n s => ?_) (fun n s w hw => ?_) 8 0 FU d1 rfl (by decide)
    · rw [f_X0_drawUp_L10, if_pos (show (8 : Int32) ≤ nI 8 by decide)]
    · have hl := lastTick_nI hv hw
      have h60 := (hv w hw).2.1
      rw [f_X0_drawUp_L10, if_neg (show ¬ (8 : Int32) ≤ nI w from nI_ge (b := 8) hw (by decide))]
      refine (g_in w (W w) (gD lp N) (fun n' s' x => f_X0_drawUp_L19 (f_X0_drawUp_L10 (nI N) lp marks lasting n) (nI N) lp marks lasting (nI w) n' x s') (fun s' => f_X0_drawUp_L10 (nI N) lp marks lasting n (nI (w + 1)) s') (fun n' s' => ?_) (fun n' s' i e he => ?_) (W w).length 0 FU s (Nat.zero_add _) (by have : FU = 5000 := rfl; omega))
      · rw [f_X0_drawUp_L19, hl, bN, if_pos (nI_lt (by omega) (by omega))]
        unfold f_X0_drawUp_J96
        rw [st1]
      · have hi := lt_of_get he
        rw [f_X0_drawUp_L19, hl, bN, if_neg (show ¬ nI (W w).length < nI (i + 1) from fun q => absurd ((nI_ltI (by omega) (by omega)).mp q) (by omega)), soundOf_i hv hw he, bN]
        unfold f_X0_drawUp_J90
        rw [st1]
        cases e with
        | none =>
          rw [cellOf_0, bN, if_pos (show (-1 : Int32) < 0 by decide)]
          rfl
        | some v =>
          obtain ⟨o1, o2, o3⟩ := get_ok ha hb hW hw he
          rw [cellOf_enc o1 o2 o3, bN, if_neg (nI_pos (by omega)), if_neg (show ¬ (36 : Int32) ≤ nI v.1 from nI_ge (b := 36) o1 (by decide)), thrownOf_enc o1 o2 o3, bN, gd_t (ib_nI o1 (by decide)), loudOf_enc o1 o2 o3, bN, coinsC lp hN, bN, gd_t (ib_nI o1 (by decide)), nI_clamp (by omega)]
          show _ = f_X0_drawUp_L19 _ _ _ _ _ _ n' _ (gD lp N s' (v.1, i + 1, v.2.1, v.2.2, w))
          unfold gD
          by_cases q : v.2.2 = 0
          · rw [if_neg (show ¬ (1 : Int32) ≤ nI v.2.2 by rw [q]; decide), if_pos q]
          · rw [if_pos (show (1 : Int32) ≤ nI v.2.2 from nI_le (a := 1) (by omega) (by omega)), if_neg q]
  refine ⟨_, ?_, fun c hc => gD_at lp N c (lsU W 8) d0 |>.trans ?_⟩
  · unfold f_X0_drawUp
    rw [k1, bN, key]
  · rw [k2, if_pos hc]
    rfl
theorem dueAtC (due : Nat → Int32) {c : Nat} (hc : c < 36) : f_X0_dueAt due (nI c) = some (due c) := by
  unfold f_X0_dueAt
  rw [if_neg (nI_pos (by omega)), if_pos (show nI c < 36 from nI_lt (b := 36) hc (by decide)), gd_t (ib_nI hc (by decide)), nI_clamp (by omega)]
theorem dueAt_none (due : Nat → Int32) : f_X0_dueAt due (-1) = some 0 := rfl
theorem finesAtM {L : List (Nat × Nat × Nat × Nat × Nat)} {m : Int32} {ca ti lo tw wa : Nat → Int32} (hL : LayS L (m, ca, ti, lo, tw, wa)) (h480 : L.length ≤ 480) (hb : ∀ e ∈ L, e.1 < 36 ∧ e.2.2.2.1 ≤ 60) {N : Nat} {lp yl : Nat → Int32} (h : okL N lp yl) (nh nt hour : Int32) {c : Nat} (hc : c < 36) : f_X10_finesAt (nI N) nh nt m yl ca ti lo tw (nI c) hour = some (fs lp N L c * tI nh nt hour) := by
  obtain ⟨hm, hL⟩ := hL
  have hm : m = nI L.length := hm
  subst hm
  have key := g_ref L (gF lp N c) (fun n s x => f_X10_finesAt_L5 (nI N) nh nt (nI L.length) yl ca ti lo tw (nI c) hour n (s * tI nh nt hour) x) (fun s => some (s * tI nh nt hour)) (fun n s => by
    show f_X10_finesAt_L5 (nI N) nh nt (nI L.length) yl ca ti lo tw (nI c) hour (n + 1) (s * tI nh nt hour) (nI L.length) = some (s * tI nh nt hour)
    rw [f_X10_finesAt_L5, if_pos (nI_le (Nat.le_refl _) (by omega))]) (fun n s k e he => by
    have hk := lt_of_get he
    obtain ⟨e1, e2, e3, e4, e5⟩ := hL k e he
    have e1 : ca k = nI e.1 := e1
    have e2 : ti k = nI e.2.1 := e2
    have e3 : lo k = nI e.2.2.1 := e3
    have e4 : tw k = nI e.2.2.2.1 := e4
    have hbe := hb e (mem_of_get he)
    show f_X10_finesAt_L5 (nI N) nh nt (nI L.length) yl ca ti lo tw (nI c) hour (n + 1) (s * tI nh nt hour) (nI k) = f_X10_finesAt_L5 (nI N) nh nt (nI L.length) yl ca ti lo tw (nI c) hour n (gF lp N c s e * tI nh nt hour) (nI (k + 1))
    rw [f_X10_finesAt_L5, if_neg (nI_ge hk (by omega))]
    unfold f_X10_finesAt_J46 f_X10_finesAt_J47 gF
    simp only [gd_t (ib_nI (show k < 480 by omega) (show 480 < 2 ^ 31 by decide)), nI_clamp (show k < 2 ^ 31 by omega), e1, e4, fineOfM h nh nt hour ti lo (show k < 480 by omega), e2, e3, bN, st1, add_0']
    by_cases q : e.1 = c
    · rw [if_pos (by rw [q]), if_pos q]
      by_cases q2 : e.2.2.2.1 = 0
      · rw [if_pos (by rw [q2]; decide), if_pos q2]
      · rw [if_neg (nI_nle (by omega) (by omega)), if_neg q2, Int32.add_mul]
    · rw [if_neg (fun z => q ((nI_eq (by omega) (by omega)).mp z)), if_neg q]) L.length 0 FU 0 (Nat.zero_add _) (by have : FU = 5000 := rfl; omega)
  have key' : f_X10_finesAt_L5 (nI N) nh nt (nI L.length) yl ca ti lo tw (nI c) hour FU (0 * tI nh nt hour) (nI 0) = some (fs lp N L c * tI nh nt hour) := key
  rw [Int32.zero_mul] at key'
  exact key'
end M62
