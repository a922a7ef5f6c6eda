section M78
theorem xin {x a : Nat} (hx : x < a) (ha : a < 2 ^ 31) : 0 ≤ nI x ∧ nI x ≤ nI a - 1 := by
  rw [show nI a - 1 = nI (a - 1) from nI_sub' (b := 1) (by omega)]
  exact ⟨nI_pos' (by omega), nI_le (by omega) (by omega)⟩
theorem Ln_6 {n : Nat} {bt : Nat → Nat} {xb yt : Nat → Int32} (hT : okT n bt xb yt) {p : Nat} (hp : p ≤ n) {k : Nat} (hk : k ≤ 9) (hlk : lk bt n p = some 6) {w h fa la nh nt : Int32} {gr wi lp : Nat → Int32} {rW rH rL : Int32} {rr rd : Nat → Int32} {s0 : TS} (R : RdS w h fa la nh nt gr wi lp rW rH rL rr rd k s0) (parts : Nat → Int32) : LnOut bt n k s0 (f_X5_readLine (nI (so bt n p)) (nI (tq bt n p)) (nI (te bt n p)) (nI n) xb parts w h fa la nh nt gr wi lp) (f_X10_readsLine (nI n) (nI k) (nI (te bt n p)) (nI (tq bt n p)) (nI (te bt n p)) rW rH rL yt rd rr) := by
  obtain ⟨rfl, rfl, rfl, hrr, s, hTR, htl⟩ := R
  have hn1 : (te bt n p) ≤ n := (te_le bt hp).2.1
  rw [rlC hT hp (by decide) hlk parts _ _ _ _ _ _ _ _ _ (fun z => absurd z (by decide)), rlM hT hp hk (by decide) hlk _ _ _ _ _ (fun z => absurd z (by decide))]
  have em : f_X10_readsRest (nI n) (nI k) (nI (te bt n (te bt n p))) (nI (tq bt n (te bt n p))) (nI (te bt n (te bt n p))) rW rH yt (upd rd (4 * k) (nI 6)) rr (nI 6) = some (1, nI (te bt n (te bt n p)), nI (tq bt n (te bt n p)), nI (te bt n (te bt n p)), upd rd (4 * k) (nI 6)) := rfl
  have m1 := J26_ok hT hp hk (by decide) (by decide) rW rH rL rd rr em
  rw [if_pos rfl] at m1
  obtain ⟨a1, s', a3, a4⟩ := act_6 hTR hk parts
  refine Ln_ok (s := nI (so bt n p)) (q := nI (tq bt n p)) (parts := parts) hn1 ?_ m1 (RdS_mk htl (fun i hi => by rw [upd_ne _ _ (by omega)]) (fun rd2 h2 => a3 rd2 ((h2 _ (by omega) (by omega)).trans (upd_same _ _ _))) a4 hrr)
  have y : f_X5_readLine_L34 (nI n) xb rW rH fa rL nh nt gr wi lp (nI (6 + 1)) (fj 6) (4996 + 1 + 1 + 1 + 1) (nI 0) (nI (so bt n p)) (nI (tq bt n p)) (nI (te bt n p)) parts = f_X5_readLine_J111 (nI (so bt n p)) (nI (tq bt n p)) (nI (te bt n p)) parts rW rH fa rL nh nt gr wi lp (nI (6 + 1)) := rdC_end (n := n) (xb := xb) (j := fj 6) (by decide) (by decide) rW rH fa rL nh nt gr wi lp (nI (6 + 1)) (nI (so bt n p)) (nI (tq bt n p)) (nI (te bt n p)) parts (4996 + 1 + 1 + 1)
  refine y.trans ?_
  unfold f_X5_readLine_J111
  rw [a1, bN]
theorem Ln_4 {n : Nat} {bt : Nat → Nat} {xb yt : Nat → Int32} (hT : okT n bt xb yt) {p : Nat} (hp : p ≤ n) {k : Nat} (hk : k ≤ 9) (hlk : lk bt n p = some 4) {w h fa la nh nt : Int32} {gr wi lp : Nat → Int32} {rW rH rL : Int32} {rr rd : Nat → Int32} {s0 : TS} (R : RdS w h fa la nh nt gr wi lp rW rH rL rr rd k s0) (parts : Nat → Int32) : LnOut bt n k s0 (f_X5_readLine (nI (so bt n p)) (nI (tq bt n p)) (nI (te bt n p)) (nI n) xb parts w h fa la nh nt gr wi lp) (f_X10_readsLine (nI n) (nI k) (nI (te bt n p)) (nI (tq bt n p)) (nI (te bt n p)) rW rH rL yt rd rr) := by
  obtain ⟨rfl, rfl, rfl, hrr, s, hTR, htl⟩ := R
  obtain ⟨a, b, m, ha1, ha, hb1, hb, -, ew, eh, -⟩ := TR_ab hTR
  subst ew
  subst eh
  have hn1 : (te bt n p) ≤ n := (te_le bt hp).2.1
  have hn2 : (te bt n (te bt n p)) ≤ n := (te_le bt hn1).2.1
  rw [rlC hT hp (by decide) hlk parts _ _ _ _ _ _ _ _ _ (fun z => absurd z (by decide)), rlM hT hp hk (by decide) hlk _ _ _ _ _ (fun z => absurd z (by decide))]
  have e0 : f_X10_readsRest (nI n) (nI k) (nI (te bt n (te bt n p))) (nI (tq bt n (te bt n p))) (nI (te bt n (te bt n p))) (nI a) (nI b) yt (upd rd (4 * k) (nI 4)) rr (nI 4) = (f_X10_readsPerson (nI n) (nI k) (nI (te bt n (te bt n p))) (nI (tq bt n (te bt n p))) (nI (te bt n (te bt n p))) yt (upd rd (4 * k) (nI 4))).bind (fun z => gd (z.1 = 0 ∨ z.1 = 1) (some (z.1, z.2.1, z.2.2.1, z.2.2.2.1, z.2.2.2.2))) := rfl
  rw [personM hT hn1 hk] at e0
  obtain ⟨c0, d0⟩ := rdN hT hn1 (j := fj 4) (i := 0) (by decide) (by decide) (by decide) (nI a) (nI b) fa rL nh nt gr wi lp (nI (4 + 1)) (nI (so bt n p)) (nI (tq bt n p)) parts (4996 + 1 + 1 + 1) (v := lt' bt n (te bt n p)) rfl (wn_T _ gr (nI a) (nI b) _)
  by_cases q0 : 0 ≤ lt' bt n (te bt n p) ∧ lt' bt n (te bt n p) ≤ 5
  · obtain ⟨t, ht, et⟩ := rng (x := lt' bt n (te bt n p)) (n := 5) (by decide) q0.1 q0.2
    have em : f_X10_readsRest (nI n) (nI k) (nI (te bt n (te bt n p))) (nI (tq bt n (te bt n p))) (nI (te bt n (te bt n p))) (nI a) (nI b) yt (upd rd (4 * k) (nI 4)) rr (nI 4) = some (1, nI (te bt n (te bt n (te bt n p))), nI (tq bt n (te bt n (te bt n p))), nI (te bt n (te bt n (te bt n p))), upd (upd rd (4 * k) (nI 4)) (4 * k + 1) (lt' bt n (te bt n p))) := by
      rw [e0, if_pos q0]
      rfl
    have m1 := J26_ok hT hp hk (by decide) (by decide) (nI a) (nI b) rL rd rr em
    rw [if_neg (show ¬ 4 = 6 by decide), if_neg (show ¬ 4 = 5 by decide)] at m1
    obtain ⟨a1, s', a3, a4⟩ := act_4 ha1 ha hb1 hb hTR hk (parts := upd parts 0 (lt' bt n (te bt n p))) (Nat.lt_succ_of_le ht) (by rw [upd_same, et])
    refine Ln_ok (s := nI (so bt n (te bt n p))) (q := nI (tq bt n (te bt n p))) (parts := upd parts 0 (lt' bt n (te bt n p))) hn2 ?_ m1 (RdS_mk htl (fun i hi => by rw [upd_ne _ _ (by omega), upd_ne _ _ (by omega)]) (fun rd2 h2 => a3 rd2 ((h2 _ (by omega) (by omega)).trans (by rw [upd_ne _ _ (by omega), upd_same])) ((h2 _ (by omega) (by omega)).trans (by rw [upd_same, et]))) a4 hrr)
    have y : f_X5_readLine_L34 (nI n) xb (nI a) (nI b) fa rL nh nt gr wi lp (nI (4 + 1)) (fj 4) (4996 + 1 + 1 + 1) (nI (0 + 1)) (nI (so bt n (te bt n p))) (nI (tq bt n (te bt n p))) (nI (te bt n (te bt n p))) (upd parts 0 (lt' bt n (te bt n p))) = f_X5_readLine_J111 (nI (so bt n (te bt n p))) (nI (tq bt n (te bt n p))) (nI (te bt n (te bt n p))) (upd parts 0 (lt' bt n (te bt n p))) (nI a) (nI b) fa rL nh nt gr wi lp (nI (4 + 1)) := rdC_end (n := n) (xb := xb) (j := fj 4) (by decide) (by decide) (nI a) (nI b) fa rL nh nt gr wi lp (nI (4 + 1)) (nI (so bt n (te bt n p))) (nI (tq bt n (te bt n p))) (nI (te bt n (te bt n p))) (upd parts 0 (lt' bt n (te bt n p))) (4996 + 1 + 1)
    refine ((d0 q0).trans y).trans ?_
    unfold f_X5_readLine_J111
    rw [a1, bN]
  · have e0' : f_X10_readsRest (nI n) (nI k) (nI (te bt n (te bt n p))) (nI (tq bt n (te bt n p))) (nI (te bt n (te bt n p))) (nI a) (nI b) yt (upd rd (4 * k) (nI 4)) rr (nI 4) = some (0, nI (te bt n (te bt n p)), nI (tq bt n (te bt n p)), nI (te bt n (te bt n p)), upd rd (4 * k) (nI 4)) := by
      rw [e0, if_neg q0]
      rfl
    exact Or.inl ⟨_, _, c0 q0, J26_fail hT hp hk (nI a) (nI b) rL rd rr e0', rfl, rfl, _, q200 hT hn1, rfl, rfl⟩
theorem Ln_2 {n : Nat} {bt : Nat → Nat} {xb yt : Nat → Int32} (hT : okT n bt xb yt) {p : Nat} (hp : p ≤ n) {k : Nat} (hk : k ≤ 9) (hlk : lk bt n p = some 2) {w h fa la nh nt : Int32} {gr wi lp : Nat → Int32} {rW rH rL : Int32} {rr rd : Nat → Int32} {s0 : TS} (R : RdS w h fa la nh nt gr wi lp rW rH rL rr rd k s0) (parts : Nat → Int32) : LnOut bt n k s0 (f_X5_readLine (nI (so bt n p)) (nI (tq bt n p)) (nI (te bt n p)) (nI n) xb parts w h fa la nh nt gr wi lp) (f_X10_readsLine (nI n) (nI k) (nI (te bt n p)) (nI (tq bt n p)) (nI (te bt n p)) rW rH rL yt rd rr) := by
  obtain ⟨rfl, rfl, rfl, hrr, s, hTR, htl⟩ := R
  obtain ⟨a, b, m, ha1, ha, hb1, hb, -, ew, eh, -⟩ := TR_ab hTR
  subst ew
  subst eh
  have h36 := mul_le36 ha hb
  have hn1 : (te bt n p) ≤ n := (te_le bt hp).2.1
  have hn2 : (te bt n (te bt n p)) ≤ n := (te_le bt hn1).2.1
  have hn3 : (te bt n (te bt n (te bt n p))) ≤ n := (te_le bt hn2).2.1
  rw [rlC hT hp (by decide) hlk parts _ _ _ _ _ _ _ _ _ (fun z => absurd z (by decide)), rlM hT hp hk (by decide) hlk _ _ _ _ _ (fun z => absurd z (by decide))]
  have e0 : f_X10_readsRest (nI n) (nI k) (nI (te bt n (te bt n p))) (nI (tq bt n (te bt n p))) (nI (te bt n (te bt n p))) (nI a) (nI b) yt (upd rd (4 * k) (nI 2)) rr (nI 2) = (f_X10_readsCell (nI n) (nI k) (nI (te bt n (te bt n p))) (nI (tq bt n (te bt n p))) (nI (te bt n (te bt n p))) (nI a) (nI b) yt (upd rd (4 * k) (nI 2)) rr (nI 0) 0).bind (fun z => gd (z.1 = 0 ∨ z.1 = 1) (some (z.1, z.2.1, z.2.2.1, z.2.2.2.1, z.2.2.2.2))) := rfl
  obtain ⟨c0, d0⟩ := rdN hT hn1 (j := fj 2) (i := 0) (by decide) (by decide) (by decide) (nI a) (nI b) fa rL nh nt gr wi lp (nI (2 + 1)) (nI (so bt n p)) (nI (tq bt n p)) parts (4996 + 1 + 1 + 1) (v := nm bt n (te bt n p)) rfl (wn_X _ gr (nI b) _ ha1 ha)
  obtain ⟨c1, d1⟩ := rdN hT hn2 (j := fj 2) (i := 1) (by decide) (by decide) (by decide) (nI a) (nI b) fa rL nh nt gr wi lp (nI (2 + 1)) (nI (so bt n (te bt n p))) (nI (tq bt n (te bt n p))) (upd parts 0 (nm bt n (te bt n p))) (4996 + 1 + 1) (v := nm bt n (te bt n (te bt n p))) rfl (wn_Y _ gr (nI a) _ hb1 hb)
  rcases cellM hT hn1 hk (j := 0) (by decide) (upd rd (4 * k) (nI 2)) rr ha1 ha hb1 hb 0 with ⟨q0, k0⟩ | ⟨x, hx, ex, ⟨q1, rd', k0⟩ | ⟨y, hy, ey, rd', k1, k2, k0⟩⟩
  · have e0' : f_X10_readsRest (nI n) (nI k) (nI (te bt n (te bt n p))) (nI (tq bt n (te bt n p))) (nI (te bt n (te bt n p))) (nI a) (nI b) yt (upd rd (4 * k) (nI 2)) rr (nI 2) = some (0, nI (te bt n (te bt n p)), nI (tq bt n (te bt n p)), nI (te bt n (te bt n p)), upd rd (4 * k) (nI 2)) := by
      rw [e0, k0]
      rfl
    exact Or.inl ⟨_, _, c0 q0, J26_fail hT hp hk (nI a) (nI b) rL rd rr e0', rfl, rfl, _, q200 hT hn1, rfl, rfl⟩
  · have q0 : 0 ≤ nm bt n (te bt n p) ∧ nm bt n (te bt n p) ≤ nI a - 1 := by
      rw [ex]
      exact xin hx (by omega)
    have e0' : f_X10_readsRest (nI n) (nI k) (nI (te bt n (te bt n p))) (nI (tq bt n (te bt n p))) (nI (te bt n (te bt n p))) (nI a) (nI b) yt (upd rd (4 * k) (nI 2)) rr (nI 2) = some (0, nI (te bt n (te bt n (te bt n p))), nI (tq bt n (te bt n (te bt n p))), nI (te bt n (te bt n (te bt n p))), rd') := by
      rw [e0, k0]
      rfl
    exact Or.inl ⟨_, _, (d0 q0).trans (c1 q1), J26_fail hT hp hk (nI a) (nI b) rL rd rr e0', rfl, rfl, _, q200 hT hn2, rfl, rfl⟩
  · have q0 : 0 ≤ nm bt n (te bt n p) ∧ nm bt n (te bt n p) ≤ nI a - 1 := by
      rw [ex]
      exact xin hx (by omega)
    have q1 : 0 ≤ nm bt n (te bt n (te bt n p)) ∧ nm bt n (te bt n (te bt n p)) ≤ nI b - 1 := by
      rw [ey]
      exact xin hy (by omega)
    have hc := cell_lt hx hy
    have em : f_X10_readsRest (nI n) (nI k) (nI (te bt n (te bt n p))) (nI (tq bt n (te bt n p))) (nI (te bt n (te bt n p))) (nI a) (nI b) yt (upd rd (4 * k) (nI 2)) rr (nI 2) = some (1, nI (te bt n (te bt n (te bt n (te bt n p)))), nI (tq bt n (te bt n (te bt n (te bt n p)))), nI (te bt n (te bt n (te bt n (te bt n p)))), rd') := by
      rw [e0, k0, if_pos rfl]
      rfl
    have r0 : rd' (4 * k) = nI 2 := by rw [k2 _ (by omega), upd_same]
    have m1 := J26_ok12 hT hp hk (Or.inr rfl) (nI a) (nI b) rL rd rr (show a * y + x < 36 by omega) k1 em
    rw [if_neg (show ¬ 2 = 1 by decide)] at m1
    obtain ⟨a1, s', a3, a4⟩ := act_2 ha1 ha hb1 hb hTR hk (parts := upd (upd parts 0 (nm bt n (te bt n p))) 1 (nm bt n (te bt n (te bt n p)))) hx hy (by rw [upd_ne _ _ (by decide), upd_same, ex]) (by rw [upd_same, ey])
    refine Ln_ok (s := nI (so bt n (te bt n (te bt n p)))) (q := nI (tq bt n (te bt n (te bt n p)))) (parts := upd (upd parts 0 (nm bt n (te bt n p))) 1 (nm bt n (te bt n (te bt n p)))) hn3 ?_ m1 (RdS_mk htl (fun i hi => by rw [k2 _ (by omega), upd_ne _ _ (by omega)]) (fun rd2 h2 => a3 rd2 ((h2 _ (by omega) (by omega)).trans r0) ((h2 _ (by omega) (by omega)).trans k1)) a4 (fun c hc' => ?_))
    rotate_left
    · by_cases z : c = a * y + x
      · rw [z, upd_same, upd_same, if_pos rfl]
      · rw [upd_ne _ _ z, upd_ne _ _ z]
        exact hrr c hc'
    · have y2 : f_X5_readLine_L34 (nI n) xb (nI a) (nI b) fa rL nh nt gr wi lp (nI (2 + 1)) (fj 2) (4996 + 1 + 1) (nI (1 + 1)) (nI (so bt n (te bt n (te bt n p)))) (nI (tq bt n (te bt n (te bt n p)))) (nI (te bt n (te bt n (te bt n p)))) (upd (upd parts 0 (nm bt n (te bt n p))) 1 (nm bt n (te bt n (te bt n p)))) = f_X5_readLine_J111 (nI (so bt n (te bt n (te bt n p)))) (nI (tq bt n (te bt n (te bt n p)))) (nI (te bt n (te bt n (te bt n p)))) (upd (upd parts 0 (nm bt n (te bt n p))) 1 (nm bt n (te bt n (te bt n p)))) (nI a) (nI b) fa rL nh nt gr wi lp (nI (2 + 1)) := rdC_end (n := n) (xb := xb) (j := fj 2) (by decide) (by decide) (nI a) (nI b) fa rL nh nt gr wi lp (nI (2 + 1)) (nI (so bt n (te bt n (te bt n p)))) (nI (tq bt n (te bt n (te bt n p)))) (nI (te bt n (te bt n (te bt n p)))) (upd (upd parts 0 (nm bt n (te bt n p))) 1 (nm bt n (te bt n (te bt n p)))) (4996 + 1)
      refine ((d0 q0).trans ((d1 q1).trans y2)).trans ?_
      unfold f_X5_readLine_J111
      rw [a1, bN]
theorem Ln_1 {n : Nat} {bt : Nat → Nat} {xb yt : Nat → Int32} (hT : okT n bt xb yt) {p : Nat} (hp : p ≤ n) {k : Nat} (hk : k ≤ 9) (hlk : lk bt n p = some 1) {w h fa la nh nt : Int32} {gr wi lp : Nat → Int32} {rW rH rL : Int32} {rr rd : Nat → Int32} {s0 : TS} (R : RdS w h fa la nh nt gr wi lp rW rH rL rr rd k s0) (parts : Nat → Int32) : LnOut bt n k s0 (f_X5_readLine (nI (so bt n p)) (nI (tq bt n p)) (nI (te bt n p)) (nI n) xb parts w h fa la nh nt gr wi lp) (f_X10_readsLine (nI n) (nI k) (nI (te bt n p)) (nI (tq bt n p)) (nI (te bt n p)) rW rH rL yt rd rr) := by
  obtain ⟨rfl, rfl, rfl, hrr, s, hTR, htl⟩ := R
  obtain ⟨a, b, m, ha1, ha, hb1, hb, -, ew, eh, -⟩ := TR_ab hTR
  subst ew
  subst eh
  have h36 := mul_le36 ha hb
  have hn1 : (te bt n p) ≤ n := (te_le bt hp).2.1
  have hn2 : (te bt n (te bt n p)) ≤ n := (te_le bt hn1).2.1
  have hn3 : (te bt n (te bt n (te bt n p))) ≤ n := (te_le bt hn2).2.1
  have hn4 : (te bt n (te bt n (te bt n (te bt n p)))) ≤ n := (te_le bt hn3).2.1
  rw [rlC hT hp (by decide) hlk parts _ _ _ _ _ _ _ _ _ (fun z => absurd z (by decide)), rlM hT hp hk (by decide) hlk _ _ _ _ _ (fun z => absurd z (by decide))]
  have e0 : f_X10_readsRest (nI n) (nI k) (nI (te bt n (te bt n p))) (nI (tq bt n (te bt n p))) (nI (te bt n (te bt n p))) (nI a) (nI b) yt (upd rd (4 * k) (nI 1)) rr (nI 1) = (f_X10_readsCell (nI n) (nI k) (nI (te bt n (te bt n p))) (nI (tq bt n (te bt n p))) (nI (te bt n (te bt n p))) (nI a) (nI b) yt (upd rd (4 * k) (nI 1)) rr (nI 0) 0).bind (fun z83 => if z83.1 = 0 then some (0, z83.2.1, z83.2.2.1, z83.2.2.2.1, z83.2.2.2.2) else (f_X10_reads (nI n) (nI k) z83.2.1 z83.2.2.1 z83.2.2.2.1 yt z83.2.2.2.2 (nI 1) 0 99).bind (fun z94 => if z94.1 = 0 then some (0, z94.2.1, z94.2.2.1, z94.2.2.2.1, z94.2.2.2.2) else some (1, z94.2.1, z94.2.2.1, z94.2.2.2.1, z94.2.2.2.2))) := rfl
  obtain ⟨c0, d0⟩ := rdN hT hn1 (j := fj 1) (i := 0) (by decide) (by decide) (by decide) (nI a) (nI b) fa rL nh nt gr wi lp (nI (1 + 1)) (nI (so bt n p)) (nI (tq bt n p)) parts (4996 + 1 + 1 + 1) (v := nm bt n (te bt n p)) rfl (wn_X _ gr (nI b) _ ha1 ha)
  obtain ⟨c1, d1⟩ := rdN hT hn2 (j := fj 1) (i := 1) (by decide) (by decide) (by decide) (nI a) (nI b) fa rL nh nt gr wi lp (nI (1 + 1)) (nI (so bt n (te bt n p))) (nI (tq bt n (te bt n p))) (upd parts 0 (nm bt n (te bt n p))) (4996 + 1 + 1) (v := nm bt n (te bt n (te bt n p))) rfl (wn_Y _ gr (nI a) _ hb1 hb)
  obtain ⟨c2, d2⟩ := rdN hT hn3 (j := fj 1) (i := 2) (by decide) (by decide) (by decide) (nI a) (nI b) fa rL nh nt gr wi lp (nI (1 + 1)) (nI (so bt n (te bt n (te bt n p)))) (nI (tq bt n (te bt n (te bt n p)))) (upd (upd parts 0 (nm bt n (te bt n p))) 1 (nm bt n (te bt n (te bt n p)))) (4996 + 1) (v := nm bt n (te bt n (te bt n (te bt n p)))) rfl (wn_S _ gr (nI a) (nI b) _)
  rcases cellM hT hn1 hk (j := 0) (by decide) (upd rd (4 * k) (nI 1)) rr ha1 ha hb1 hb 0 with ⟨q0, k0⟩ | ⟨x, hx, ex, ⟨q1, rd', k0⟩ | ⟨y, hy, ey, rd', k1, k2, k0⟩⟩
  · have e0' : f_X10_readsRest (nI n) (nI k) (nI (te bt n (te bt n p))) (nI (tq bt n (te bt n p))) (nI (te bt n (te bt n p))) (nI a) (nI b) yt (upd rd (4 * k) (nI 1)) rr (nI 1) = some (0, nI (te bt n (te bt n p)), nI (tq bt n (te bt n p)), nI (te bt n (te bt n p)), upd rd (4 * k) (nI 1)) := by
      rw [e0, k0, bz]
    exact Or.inl ⟨_, _, c0 q0, J26_fail hT hp hk (nI a) (nI b) rL rd rr e0', rfl, rfl, _, q200 hT hn1, rfl, rfl⟩
  · have q0 : 0 ≤ nm bt n (te bt n p) ∧ nm bt n (te bt n p) ≤ nI a - 1 := by
      rw [ex]
      exact xin hx (by omega)
    have e0' : f_X10_readsRest (nI n) (nI k) (nI (te bt n (te bt n p))) (nI (tq bt n (te bt n p))) (nI (te bt n (te bt n p))) (nI a) (nI b) yt (upd rd (4 * k) (nI 1)) rr (nI 1) = some (0, nI (te bt n (te bt n (te bt n p))), nI (tq bt n (te bt n (te bt n p))), nI (te bt n (te bt n (te bt n p))), rd') := by
      rw [e0, k0, bz]
    exact Or.inl ⟨_, _, (d0 q0).trans (c1 q1), J26_fail hT hp hk (nI a) (nI b) rL rd rr e0', rfl, rfl, _, q200 hT hn2, rfl, rfl⟩
  · have q0 : 0 ≤ nm bt n (te bt n p) ∧ nm bt n (te bt n p) ≤ nI a - 1 := by
      rw [ex]
      exact xin hx (by omega)
    have q1 : 0 ≤ nm bt n (te bt n (te bt n p)) ∧ nm bt n (te bt n (te bt n p)) ≤ nI b - 1 := by
      rw [ey]
      exact xin hy (by omega)
    have hc := cell_lt hx hy
    rw [k0, if_pos rfl, bo] at e0
    have e1 : f_X10_readsRest (nI n) (nI k) (nI (te bt n (te bt n p))) (nI (tq bt n (te bt n p))) (nI (te bt n (te bt n p))) (nI a) (nI b) yt (upd rd (4 * k) (nI 1)) rr (nI 1) = (f_X10_reads (nI n) (nI k) (nI (te bt n (te bt n (te bt n (te bt n p))))) (nI (tq bt n (te bt n (te bt n (te bt n p))))) (nI (te bt n (te bt n (te bt n (te bt n p))))) yt rd' (nI 1) 0 99).bind (fun z94 => if z94.1 = 0 then some (0, z94.2.1, z94.2.2.1, z94.2.2.2.1, z94.2.2.2.2) else some (1, z94.2.1, z94.2.2.1, z94.2.2.2.1, z94.2.2.2.2)) := e0
    rw [readsM hT hn3 hk (by decide) _ (show (0 : Int32) ≤ 0 by decide)] at e1
    by_cases q2 : 0 ≤ nm bt n (te bt n (te bt n (te bt n p))) ∧ nm bt n (te bt n (te bt n (te bt n p))) ≤ 99
    · rw [if_pos q2, bo] at e1
      obtain ⟨u, hu, eu⟩ := rng (x := nm bt n (te bt n (te bt n (te bt n p)))) (n := 99) (by decide) q2.1 q2.2
      have em : f_X10_readsRest (nI n) (nI k) (nI (te bt n (te bt n p))) (nI (tq bt n (te bt n p))) (nI (te bt n (te bt n p))) (nI a) (nI b) yt (upd rd (4 * k) (nI 1)) rr (nI 1) = some (1, nI (te bt n (te bt n (te bt n (te bt n (te bt n p))))), nI (tq bt n (te bt n (te bt n (te bt n (te bt n p))))), nI (te bt n (te bt n (te bt n (te bt n (te bt n p))))), upd rd' (4 * k + 1 + 1) (nm bt n (te bt n (te bt n (te bt n p))))) := e1
      have r0 : upd rd' (4 * k + 1 + 1) (nm bt n (te bt n (te bt n (te bt n p)))) (4 * k) = nI 1 := by rw [upd_ne _ _ (by omega), k2 _ (by omega), upd_same]
      have r1 : upd rd' (4 * k + 1 + 1) (nm bt n (te bt n (te bt n (te bt n p)))) (4 * k + 1) = nI (a * y + x) := by rw [upd_ne _ _ (by omega)]; exact k1
      have r2 : upd rd' (4 * k + 1 + 1) (nm bt n (te bt n (te bt n (te bt n p)))) (4 * k + 2) = nI u := by rw [← eu]; exact upd_same _ _ _
      have m1 := J26_ok12 hT hp hk (Or.inl rfl) (nI a) (nI b) rL rd rr (show a * y + x < 36 by omega) r1 em
      rw [if_pos rfl] at m1
      obtain ⟨wi', a1, s', a3, a4⟩ := act_1 ha1 ha hb1 hb hTR hk (parts := upd (upd (upd parts 0 (nm bt n (te bt n p))) 1 (nm bt n (te bt n (te bt n p)))) 2 (nm bt n (te bt n (te bt n (te bt n p))))) hx hy hu (by rw [upd_ne _ _ (by decide), upd_ne _ _ (by decide), upd_same, ex]) (by rw [upd_ne _ _ (by decide), upd_same, ey]) (by rw [upd_same, eu])
      refine Ln_ok (s := nI (so bt n (te bt n (te bt n (te bt n p))))) (q := nI (tq bt n (te bt n (te bt n (te bt n p))))) (parts := upd (upd (upd parts 0 (nm bt n (te bt n p))) 1 (nm bt n (te bt n (te bt n p)))) 2 (nm bt n (te bt n (te bt n (te bt n p))))) hn4 ?_ m1 (RdS_mk htl (fun i hi => by rw [upd_ne _ _ (by omega), k2 _ (by omega), upd_ne _ _ (by omega)]) (fun rd2 h2 => a3 rd2 ((h2 _ (by omega) (by omega)).trans r0) ((h2 _ (by omega) (by omega)).trans r1) ((h2 _ (by omega) (by omega)).trans r2)) a4 (fun c hc' => ?_))
      rotate_left
      · by_cases z : c = a * y + x
        · rw [z, upd_same, upd_same, if_neg (nI_ne1 (by omega))]
        · rw [upd_ne _ _ z, upd_ne _ _ z]
          exact hrr c hc'
      · have y3 : f_X5_readLine_L34 (nI n) xb (nI a) (nI b) fa rL nh nt gr wi lp (nI (1 + 1)) (fj 1) (4996 + 1) (nI (2 + 1)) (nI (so bt n (te bt n (te bt n (te bt n p))))) (nI (tq bt n (te bt n (te bt n (te bt n p))))) (nI (te bt n (te bt n (te bt n (te bt n p))))) (upd (upd (upd parts 0 (nm bt n (te bt n p))) 1 (nm bt n (te bt n (te bt n p)))) 2 (nm bt n (te bt n (te bt n (te bt n p))))) = f_X5_readLine_J111 (nI (so bt n (te bt n (te bt n (te bt n p))))) (nI (tq bt n (te bt n (te bt n (te bt n p))))) (nI (te bt n (te bt n (te bt n (te bt n p))))) (upd (upd (upd parts 0 (nm bt n (te bt n p))) 1 (nm bt n (te bt n (te bt n p)))) 2 (nm bt n (te bt n (te bt n (te bt n p))))) (nI a) (nI b) fa rL nh nt gr wi lp (nI (1 + 1)) := rdC_end (n := n) (xb := xb) (j := fj 1) (by decide) (by decide) (nI a) (nI b) fa rL nh nt gr wi lp (nI (1 + 1)) (nI (so bt n (te bt n (te bt n (te bt n p))))) (nI (tq bt n (te bt n (te bt n (te bt n p))))) (nI (te bt n (te bt n (te bt n (te bt n p))))) (upd (upd (upd parts 0 (nm bt n (te bt n p))) 1 (nm bt n (te bt n (te bt n p)))) 2 (nm bt n (te bt n (te bt n (te bt n p))))) 4996
        refine ((d0 q0).trans ((d1 q1).trans ((d2 q2).trans y3))).trans ?_
        unfold f_X5_readLine_J111
        rw [a1, bN]
    · have e0' : f_X10_readsRest (nI n) (nI k) (nI (te bt n (te bt n p))) (nI (tq bt n (te bt n p))) (nI (te bt n (te bt n p))) (nI a) (nI b) yt (upd rd (4 * k) (nI 1)) rr (nI 1) = some (0, nI (te bt n (te bt n (te bt n (te bt n p)))), nI (tq bt n (te bt n (te bt n (te bt n p)))), nI (te bt n (te bt n (te bt n (te bt n p)))), rd') := by
        rw [e1, if_neg q2, bz]
      exact Or.inl ⟨_, _, (d0 q0).trans ((d1 q1).trans (c2 q2)), J26_fail hT hp hk (nI a) (nI b) rL rd rr e0', rfl, rfl, _, q200 hT hn3, rfl, rfl⟩
theorem Ln_3 {n : Nat} {bt : Nat → Nat} {xb yt : Nat → Int32} (hT : okT n bt xb yt) {p : Nat} (hp : p ≤ n) {k : Nat} (hk : k ≤ 9) (hlk : lk bt n p = some 3) {w h fa la nh nt : Int32} {gr wi lp : Nat → Int32} {rW rH rL : Int32} {rr rd : Nat → Int32} {s0 : TS} (R : RdS w h fa la nh nt gr wi lp rW rH rL rr rd k s0) (parts : Nat → Int32) : LnOut bt n k s0 (f_X5_readLine (nI (so bt n p)) (nI (tq bt n p)) (nI (te bt n p)) (nI n) xb parts w h fa la nh nt gr wi lp) (f_X10_readsLine (nI n) (nI k) (nI (te bt n p)) (nI (tq bt n p)) (nI (te bt n p)) rW rH rL yt rd rr) := by
  obtain ⟨rfl, rfl, rfl, hrr, s, hTR, htl⟩ := R
  obtain ⟨a, b, m, ha1, ha, hb1, hb, -, ew, eh, -⟩ := TR_ab hTR
  subst ew
  subst eh
  have h36 := mul_le36 ha hb
  have hn1 : (te bt n p) ≤ n := (te_le bt hp).2.1
  have hn2 : (te bt n (te bt n p)) ≤ n := (te_le bt hn1).2.1
  have hn3 : (te bt n (te bt n (te bt n p))) ≤ n := (te_le bt hn2).2.1
  have hn4 : (te bt n (te bt n (te bt n (te bt n p)))) ≤ n := (te_le bt hn3).2.1
  rw [rlC hT hp (by decide) hlk parts _ _ _ _ _ _ _ _ _ (fun z => absurd z (by decide)), rlM hT hp hk (by decide) hlk _ _ _ _ _ (fun z => absurd z (by decide))]
  have e0 : f_X10_readsRest (nI n) (nI k) (nI (te bt n (te bt n p))) (nI (tq bt n (te bt n p))) (nI (te bt n (te bt n p))) (nI a) (nI b) yt (upd rd (4 * k) (nI 3)) rr (nI 3) = (f_X10_readsPerson (nI n) (nI k) (nI (te bt n (te bt n p))) (nI (tq bt n (te bt n p))) (nI (te bt n (te bt n p))) yt (upd rd (4 * k) (nI 3))).bind (fun z114 => if z114.1 = 0 then some (0, z114.2.1, z114.2.2.1, z114.2.2.2.1, z114.2.2.2.2) else (f_X10_readsCell (nI n) (nI k) z114.2.1 z114.2.2.1 z114.2.2.2.1 (nI a) (nI b) yt z114.2.2.2.2 rr (nI 1) 1).bind (fun z123 => if z123.1 = 0 then some (0, z123.2.1, z123.2.2.1, z123.2.2.2.1, z123.2.2.2.2) else some (1, z123.2.1, z123.2.2.1, z123.2.2.2.1, z123.2.2.2.2))) := rfl
  rw [personM hT hn1 hk] at e0
  obtain ⟨c0, d0⟩ := rdN hT hn1 (j := fj 3) (i := 0) (by decide) (by decide) (by decide) (nI a) (nI b) fa rL nh nt gr wi lp (nI (3 + 1)) (nI (so bt n p)) (nI (tq bt n p)) parts (4996 + 1 + 1 + 1) (v := lt' bt n (te bt n p)) rfl (wn_T _ gr (nI a) (nI b) _)
  by_cases q0 : 0 ≤ lt' bt n (te bt n p) ∧ lt' bt n (te bt n p) ≤ 5
  · obtain ⟨t, ht, et⟩ := rng (x := lt' bt n (te bt n p)) (n := 5) (by decide) q0.1 q0.2
    rw [if_pos q0, bo] at e0
    have e1 : f_X10_readsRest (nI n) (nI k) (nI (te bt n (te bt n p))) (nI (tq bt n (te bt n p))) (nI (te bt n (te bt n p))) (nI a) (nI b) yt (upd rd (4 * k) (nI 3)) rr (nI 3) = (f_X10_readsCell (nI n) (nI k) (nI (te bt n (te bt n (te bt n p)))) (nI (tq bt n (te bt n (te bt n p)))) (nI (te bt n (te bt n (te bt n p)))) (nI a) (nI b) yt (upd (upd rd (4 * k) (nI 3)) (4 * k + 1) (lt' bt n (te bt n p))) rr (nI 1) 1).bind (fun z123 => if z123.1 = 0 then some (0, z123.2.1, z123.2.2.1, z123.2.2.2.1, z123.2.2.2.2) else some (1, z123.2.1, z123.2.2.1, z123.2.2.2.1, z123.2.2.2.2)) := e0
    obtain ⟨c1, d1⟩ := rdN hT hn2 (j := fj 3) (i := 1) (by decide) (by decide) (by decide) (nI a) (nI b) fa rL nh nt gr wi lp (nI (3 + 1)) (nI (so bt n (te bt n p))) (nI (tq bt n (te bt n p))) (upd parts 0 (lt' bt n (te bt n p))) (4996 + 1 + 1) (v := nm bt n (te bt n (te bt n p))) rfl (wn_X _ gr (nI b) _ ha1 ha)
    have st2 := rdC_step hT hn3 (j := fj 3) (i := 2) (by decide) (by decide) (by decide) (nI a) (nI b) fa rL nh nt gr wi lp (nI (3 + 1)) (nI (so bt n (te bt n (te bt n p)))) (nI (tq bt n (te bt n (te bt n p)))) (upd (upd parts 0 (lt' bt n (te bt n p))) 1 (nm bt n (te bt n (te bt n p)))) (4996 + 1)
    have st2' : f_X5_readLine_L34 (nI n) xb (nI a) (nI b) fa rL nh nt gr wi lp (nI (3 + 1)) (fj 3) (4996 + 1 + 1) (nI (1 + 1)) (nI (so bt n (te bt n (te bt n p)))) (nI (tq bt n (te bt n (te bt n p)))) (nI (te bt n (te bt n (te bt n p)))) (upd (upd parts 0 (lt' bt n (te bt n p))) 1 (nm bt n (te bt n (te bt n p)))) = (f_X5_isWithin (upd (upd (upd parts 0 (lt' bt n (te bt n p))) 1 (nm bt n (te bt n (te bt n p)))) 2 (nm bt n (te bt n (te bt n (te bt n p))))) (nI a) (nI b) gr (nI 70) (nm bt n (te bt n (te bt n (te bt n p))))).bind (fun z => if z = 0 then some (0, nI (so bt n (te bt n (te bt n (te bt n p)))), nI (tq bt n (te bt n (te bt n (te bt n p)))), nI (te bt n (te bt n (te bt n (te bt n p)))), upd (upd (upd parts 0 (lt' bt n (te bt n p))) 1 (nm bt n (te bt n (te bt n p)))) 2 (nm bt n (te bt n (te bt n (te bt n p)))), nI a, nI b, fa, rL, nh, nt, gr, wi, lp) else f_X5_readLine_L34 (nI n) xb (nI a) (nI b) fa rL nh nt gr wi lp (nI (3 + 1)) (fj 3) (4996 + 1) (nI (2 + 1)) (nI (so bt n (te bt n (te bt n (te bt n p))))) (nI (tq bt n (te bt n (te bt n (te bt n p))))) (nI (te bt n (te bt n (te bt n (te bt n p))))) (upd (upd (upd parts 0 (lt' bt n (te bt n p))) 1 (nm bt n (te bt n (te bt n p)))) 2 (nm bt n (te bt n (te bt n (te bt n p)))))) := st2
    have fail : ∀ (at' pl en : Int32) (rd' : Nat → Int32), pl = nI (tq bt n (te bt n (te bt n (te bt n p)))) → (0 ≤ nm bt n (te bt n (te bt n p)) ∧ nm bt n (te bt n (te bt n p)) ≤ nI a - 1) → f_X5_isWithin (upd (upd (upd parts 0 (lt' bt n (te bt n p))) 1 (nm bt n (te bt n (te bt n p)))) 2 (nm bt n (te bt n (te bt n (te bt n p))))) (nI a) (nI b) gr (nI 70) (nm bt n (te bt n (te bt n (te bt n p)))) = some 0 → f_X10_readsRest (nI n) (nI k) (nI (te bt n (te bt n p))) (nI (tq bt n (te bt n p))) (nI (te bt n (te bt n p))) (nI a) (nI b) yt (upd rd (4 * k) (nI 3)) rr (nI 3) = some (0, at', pl, en, rd') → LnOut bt n k s0 (f_X5_readLine_L34 (nI n) xb (nI a) (nI b) fa rL nh nt gr wi lp (nI (3 + 1)) (fj 3) (4996 + 1 + 1 + 1 + 1) (nI 0) (nI (so bt n p)) (nI (tq bt n p)) (nI (te bt n p)) parts) (f_X10_readsLine_J26 (nI n) (nI k) (nI (te bt n p)) (nI (tq bt n p)) (nI (te bt n p)) (nI a) (nI b) rL yt rd rr (nI 3)) := fun at' pl en rd' hpl q1 hw hr => by
      rw [hw, bN, i00] at st2'
      exact Or.inl ⟨_, _, (d0 q0).trans ((d1 q1).trans st2'), J26_fail hT hp hk (nI a) (nI b) rL rd rr hr, rfl, rfl, _, q200 hT hn3, rfl, hpl⟩
    rcases cellM hT hn2 hk (j := 1) (by decide) (upd (upd rd (4 * k) (nI 3)) (4 * k + 1) (lt' bt n (te bt n p))) rr ha1 ha hb1 hb 1 with ⟨q1, k0⟩ | ⟨x, hx, ex, ⟨q2, rd', k0⟩ | ⟨y, hy, ey, rd', k1, k2, k0⟩⟩
    · have e0' : f_X10_readsRest (nI n) (nI k) (nI (te bt n (te bt n p))) (nI (tq bt n (te bt n p))) (nI (te bt n (te bt n p))) (nI a) (nI b) yt (upd rd (4 * k) (nI 3)) rr (nI 3) = some (0, nI (te bt n (te bt n (te bt n p))), nI (tq bt n (te bt n (te bt n p))), nI (te bt n (te bt n (te bt n p))), upd (upd rd (4 * k) (nI 3)) (4 * k + 1) (lt' bt n (te bt n p))) := by
        rw [e1, k0, bz]
      exact Or.inl ⟨_, _, (d0 q0).trans (c1 q1), J26_fail hT hp hk (nI a) (nI b) rL rd rr e0', rfl, rfl, _, q200 hT hn2, rfl, rfl⟩
    · have q1 : 0 ≤ nm bt n (te bt n (te bt n p)) ∧ nm bt n (te bt n (te bt n p)) ≤ nI a - 1 := by
        rw [ex]
        exact xin hx (by omega)
      have e0' : f_X10_readsRest (nI n) (nI k) (nI (te bt n (te bt n p))) (nI (tq bt n (te bt n p))) (nI (te bt n (te bt n p))) (nI a) (nI b) yt (upd rd (4 * k) (nI 3)) rr (nI 3) = some (0, nI (te bt n (te bt n (te bt n (te bt n p)))), nI (tq bt n (te bt n (te bt n (te bt n p)))), nI (te bt n (te bt n (te bt n (te bt n p)))), rd') := by
        rw [e1, k0, bz]
      rcases wn_F (gr := gr) ha1 ha hb1 hb hx (parts := upd (upd (upd parts 0 (lt' bt n (te bt n p))) 1 (nm bt n (te bt n (te bt n p)))) 2 (nm bt n (te bt n (te bt n (te bt n p))))) (by rw [upd_ne _ _ (by decide), upd_same, ex]) (nm bt n (te bt n (te bt n (te bt n p)))) with ⟨-, hw⟩ | ⟨y, hy, ey, -⟩
      · exact fail _ _ _ _ rfl q1 hw e0'
      · exact absurd (by rw [ey]; exact xin hy (by omega)) q2
    · have q1 : 0 ≤ nm bt n (te bt n (te bt n p)) ∧ nm bt n (te bt n (te bt n p)) ≤ nI a - 1 := by
        rw [ex]
        exact xin hx (by omega)
      have q2 : 0 ≤ nm bt n (te bt n (te bt n (te bt n p))) ∧ nm bt n (te bt n (te bt n (te bt n p))) ≤ nI b - 1 := by
        rw [ey]
        exact xin hy (by omega)
      have hc := cell_lt hx hy
      rw [if_neg (show ¬ (1 : Int32) = 0 by decide), hrr (a * y + x) (by omega)] at k0
      rcases wn_F (gr := gr) ha1 ha hb1 hb hx (parts := upd (upd (upd parts 0 (lt' bt n (te bt n p))) 1 (nm bt n (te bt n (te bt n p)))) 2 (nm bt n (te bt n (te bt n (te bt n p))))) (by rw [upd_ne _ _ (by decide), upd_same, ex]) (nm bt n (te bt n (te bt n (te bt n p)))) with ⟨hq, -⟩ | ⟨y', hy', ey', hw⟩
      · exact absurd q2 hq
      · have eyy : y' = y := (nI_eq (by omega) (by omega)).mp (ey'.symm.trans ey)
        subst eyy
        by_cases z : gr (a * y' + x) = -1
        · rw [if_pos z, if_pos rfl] at k0
          rw [if_pos z] at hw
          have em : f_X10_readsRest (nI n) (nI k) (nI (te bt n (te bt n p))) (nI (tq bt n (te bt n p))) (nI (te bt n (te bt n p))) (nI a) (nI b) yt (upd rd (4 * k) (nI 3)) rr (nI 3) = some (1, nI (te bt n (te bt n (te bt n (te bt n (te bt n p))))), nI (tq bt n (te bt n (te bt n (te bt n (te bt n p))))), nI (te bt n (te bt n (te bt n (te bt n (te bt n p))))), rd') := by
            rw [e1, k0, bo]
          have r0 : rd' (4 * k) = nI 3 := by rw [k2 _ (by omega), upd_ne _ _ (by omega), upd_same]
          have r1 : rd' (4 * k + 1) = nI t := by rw [k2 _ (by omega), upd_same, et]
          have m1 := J26_ok hT hp hk (by decide) (by decide) (nI a) (nI b) rL rd rr em
          rw [if_neg (show ¬ 3 = 6 by decide), if_neg (show ¬ 3 = 5 by decide)] at m1
          obtain ⟨a1, s', a3, a4⟩ := act_3 ha1 ha hb1 hb hTR hk (parts := upd (upd (upd parts 0 (lt' bt n (te bt n p))) 1 (nm bt n (te bt n (te bt n p)))) 2 (nm bt n (te bt n (te bt n (te bt n p))))) (Nat.lt_succ_of_le ht) hx hy z (by rw [upd_ne _ _ (by decide), upd_ne _ _ (by decide), upd_same, et]) (by rw [upd_ne _ _ (by decide), upd_same, ex]) (by rw [upd_same, ey])
          refine Ln_ok (s := nI (so bt n (te bt n (te bt n (te bt n p))))) (q := nI (tq bt n (te bt n (te bt n (te bt n p))))) (parts := upd (upd (upd parts 0 (lt' bt n (te bt n p))) 1 (nm bt n (te bt n (te bt n p)))) 2 (nm bt n (te bt n (te bt n (te bt n p))))) hn4 ?_ m1 (RdS_mk htl (fun i hi => by rw [k2 _ (by omega), upd_ne _ _ (by omega), upd_ne _ _ (by omega)]) (fun rd2 h2 => a3 rd2 ((h2 _ (by omega) (by omega)).trans r0) ((h2 _ (by omega) (by omega)).trans r1) ((h2 _ (by omega) (by omega)).trans k1)) a4 hrr)
          have y3 : f_X5_readLine_L34 (nI n) xb (nI a) (nI b) fa rL nh nt gr wi lp (nI (3 + 1)) (fj 3) (4996 + 1) (nI (2 + 1)) (nI (so bt n (te bt n (te bt n (te bt n p))))) (nI (tq bt n (te bt n (te bt n (te bt n p))))) (nI (te bt n (te bt n (te bt n (te bt n p))))) (upd (upd (upd parts 0 (lt' bt n (te bt n p))) 1 (nm bt n (te bt n (te bt n p)))) 2 (nm bt n (te bt n (te bt n (te bt n p))))) = f_X5_readLine_J111 (nI (so bt n (te bt n (te bt n (te bt n p))))) (nI (tq bt n (te bt n (te bt n (te bt n p))))) (nI (te bt n (te bt n (te bt n (te bt n p))))) (upd (upd (upd parts 0 (lt' bt n (te bt n p))) 1 (nm bt n (te bt n (te bt n p)))) 2 (nm bt n (te bt n (te bt n (te bt n p))))) (nI a) (nI b) fa rL nh nt gr wi lp (nI (3 + 1)) := rdC_end (n := n) (xb := xb) (j := fj 3) (by decide) (by decide) (nI a) (nI b) fa rL nh nt gr wi lp (nI (3 + 1)) (nI (so bt n (te bt n (te bt n (te bt n p))))) (nI (tq bt n (te bt n (te bt n (te bt n p))))) (nI (te bt n (te bt n (te bt n (te bt n p))))) (upd (upd (upd parts 0 (lt' bt n (te bt n p))) 1 (nm bt n (te bt n (te bt n p)))) 2 (nm bt n (te bt n (te bt n (te bt n p))))) 4996
          rw [hw, bN, i10] at st2'
          refine ((d0 q0).trans ((d1 q1).trans (st2'.trans y3))).trans ?_
          unfold f_X5_readLine_J111
          rw [a1, bN]
        · rw [if_neg z, if_neg (show ¬ (1 : Int32) = 0 by decide)] at k0
          rw [if_neg z] at hw
          have e0' : f_X10_readsRest (nI n) (nI k) (nI (te bt n (te bt n p))) (nI (tq bt n (te bt n p))) (nI (te bt n (te bt n p))) (nI a) (nI b) yt (upd rd (4 * k) (nI 3)) rr (nI 3) = some (0, nI (te bt n (te bt n (te bt n (te bt n (te bt n p))))), nI (tq bt n (te bt n (te bt n (te bt n p)))), nI (te bt n (te bt n (te bt n (te bt n (te bt n p))))), rd') := by
            rw [e1, k0, bz]
          exact fail _ _ _ _ rfl q1 hw e0'
  · have e0' : f_X10_readsRest (nI n) (nI k) (nI (te bt n (te bt n p))) (nI (tq bt n (te bt n p))) (nI (te bt n (te bt n p))) (nI a) (nI b) yt (upd rd (4 * k) (nI 3)) rr (nI 3) = some (0, nI (te bt n (te bt n p)), nI (tq bt n (te bt n p)), nI (te bt n (te bt n p)), upd rd (4 * k) (nI 3)) := by
      rw [e0, if_neg q0, bz]
    exact Or.inl ⟨_, _, c0 q0, J26_fail hT hp hk (nI a) (nI b) rL rd rr e0', rfl, rfl, _, q200 hT hn1, rfl, rfl⟩
end M78
