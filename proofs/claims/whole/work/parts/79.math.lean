section M79
/-! the text, class and reference -/
theorem Ln_all {n : Nat} {bt : Nat → Nat} {xb yt : Nat → Int32} (hT : okT n bt xb yt) {p : Nat} (hp : p ≤ n) {k : Nat} (hk : k ≤ 9) {w h fa la nh nt : Int32} {gr wi lp : Nat → Int32} {rW rH rL : Int32} {rr rd : Nat → Int32} {s0 : TS} (R : RdS w h fa la nh nt gr wi lp rW rH rL rr rd k s0) (parts : Nat → Int32) : LnOut bt n k s0 (f_X5_readLine (nI (so bt n p)) (nI (tq bt n p)) (nI (te bt n p)) (nI n) xb parts w h fa la nh nt gr wi lp) (f_X10_readsLine (nI n) (nI k) (nI (te bt n p)) (nI (tq bt n p)) (nI (te bt n p)) rW rH rL yt rd rr) := by
  cases hlk : lk bt n p with
  | none =>
    refine Or.inl ⟨(0, nI (so bt n p), nI (tq bt n p), nI (te bt n p), parts, w, h, fa, la, nh, nt, gr, wi, lp), (0, nI k, nI (te bt n p), nI (tq bt n p), nI (te bt n p), rW, rH, rL, rd, rr), ?_, ?_, rfl, rfl, _, q200 hT hp, rfl, rfl⟩
    · unfold f_X5_readLine
      rw [lineC hT hp, hlk, show oC none = 0 from rfl, bN, i00]
    · unfold f_X10_readsLine
      rw [wordM hT hp, hlk, show oM none = -1 from rfl, bN, if_pos rfl]
  | some K =>
    have hK := fwd_lt _ _ _ _ _ _ hlk
    rcases (show K = 0 ∨ K = 1 ∨ K = 2 ∨ K = 3 ∨ K = 4 ∨ K = 5 ∨ K = 6 ∨ K = 7 ∨ K = 8 by omega) with z | z | z | z | z | z | z | z | z
    · rw [z] at hlk; exact Ln_0 hT hp hk hlk R parts
    · rw [z] at hlk; exact Ln_1 hT hp hk hlk R parts
    · rw [z] at hlk; exact Ln_2 hT hp hk hlk R parts
    · rw [z] at hlk; exact Ln_3 hT hp hk hlk R parts
    · rw [z] at hlk; exact Ln_4 hT hp hk hlk R parts
    · rw [z] at hlk; exact Ln_5 hT hp hk hlk R parts
    · rw [z] at hlk; exact Ln_6 hT hp hk hlk R parts
    · rw [z] at hlk; exact Ln_7 hT hp hk hlk R parts
    · rw [z] at hlk; exact Ln_8 hT hp hk hlk R parts
def RF (n : Nat) (yt : Nat → Int32) (fu k p : Nat) (pl en rW rH rL : Int32) (rd rr : Nat → Int32) : Option RM := (f_X10_token (nI n) (nI p) pl en yt).bind (fun z76 => (f_X10_readsLine (nI n) (nI k) z76.1 z76.2.1 z76.2.2 rW rH rL yt rd rr).bind (fun z80 => (if z80.1 = 0 then (some (z80.2.2.2.1, z80.2.1, z80.2.2.1, z80.2.2.2.1, z80.2.2.2.2.1, z80.2.2.2.2.2.1, z80.2.2.2.2.2.2.1, z80.2.2.2.2.2.2.2.1, z80.2.2.2.2.2.2.2.2.1, z80.2.2.2.2.2.2.2.2.2)) else (f_X10_fault_L91 (nI n) yt fu z80.2.1 z80.2.2.1 z80.2.2.2.1 z80.2.2.2.2.1 z80.2.2.2.2.2.1 z80.2.2.2.2.2.2.1 z80.2.2.2.2.2.2.2.1 z80.2.2.2.2.2.2.2.2.1 z80.2.2.2.2.2.2.2.2.2))))
theorem J143_RF (n : Nat) (yt : Nat → Int32) (fu k p : Nat) (pl en rW rH rL : Int32) (rd rr : Nat → Int32) : f_X10_fault_J143 (f_X10_fault_L91 (nI n) yt fu) (nI n) (nI k) (nI p) pl en rW rH rL yt rd rr 1 = RF n yt fu k p pl en rW rH rL rd rr := by
  unfold f_X10_fault_J143 RF f_X10_fault_J157 f_X10_fault_J161
  rw [i10]
abbrev FC := Int32 × Int32 × Int32 × Int32 × Int32 × (Nat → Int32) × Int32 × Int32 × Int32 × Int32 × Int32 × Int32 × (Nat → Int32) × (Nat → Int32) × (Nat → Int32)
def FOut (s0 : TS) (z1 : Option FC) (z2 : Option RM) : Prop := (∃ (y1 : FC) (y2 : RM) (q : Nat), q ≤ 200 ∧ z1 = some y1 ∧ z2 = some y2 ∧ y1.1 = nI q ∧ y2.1 = nI q) ∨ ∃ (m : Nat) (s st en : Int32) (parts : Nat → Int32) (w h fa la nh nt : Int32) (gr wi lp : Nat → Int32) (at' pl en2 : Int32) (rd rr : Nat → Int32), m ≤ 10 ∧ z1 = some (-1, s, st, en, nI m, parts, w, h, fa, la, nh, nt, gr, wi, lp) ∧ z2 = some (-1, nI m, at', pl, en2, w, h, la, rd, rr) ∧ RdS w h fa la nh nt gr wi lp w h la rr rd m s0
theorem rd_loop {n : Nat} {bt : Nat → Nat} {xb yt : Nat → Int32} (hT : okT n bt xb yt) (s0 : TS) : ∀ (d k f1 f2 p : Nat) (s st pl en : Int32) (parts : Nat → Int32) (w h fa la nh nt : Int32) (gr wi lp : Nat → Int32) (rW rH rL : Int32) (rd rr : Nat → Int32), k + (d + 1) = 10 → d + 1 < f1 → d + 1 ≤ f2 → p ≤ n → RdS w h fa la nh nt gr wi lp rW rH rL rr rd k s0 → FOut s0 (f_X5_read_L17 (nI n) xb f1 (nI k) s st (nI p) (nI k) parts w h fa la nh nt gr wi lp) (RF n yt f2 k p pl en rW rH rL rd rr) := by
  have h200 := hT.1
  intro d
  induction d with
  | zero =>
    intro k f1 f2 p s st pl en parts w h fa la nh nt gr wi lp rW rH rL rd rr hk hf1 hf2 hp R
    obtain ⟨f1, rfl⟩ : ∃ m, f1 = m + 1 := ⟨f1 - 1, by omega⟩
    obtain ⟨f1, rfl⟩ : ∃ m, f1 = m + 1 := ⟨f1 - 1, by omega⟩
    obtain ⟨f2, rfl⟩ : ∃ m, f2 = m + 1 := ⟨f2 - 1, by omega⟩
    rw [f_X5_read_L17, if_neg (show ¬ (10 : Int32) ≤ nI k from nI_ge (b := 10) (by omega) (by decide)), nextC hT hp, bN]
    unfold RF
    rw [tokM hT hp, bN]
    rcases Ln_all hT hp (show k ≤ 9 by omega) R parts with ⟨y1, y2, g1, g2, g3, g4, q, g5, g6, g7⟩ | ⟨p', s', q', parts', w', h', fa', la', nh', nt', gr', wi', lp', rd', rr', hp', g1, g2, g3⟩
    · rw [g1, bN, if_pos g3, g2, bN, if_pos g4]
      unfold f_X5_read_J35
      exact Or.inl ⟨_, _, q, g5, rfl, rfl, g6, g7⟩
    · have hq' := tq_le bt hp'
      have he' := te_le bt hp'
      have hso := so_r bt n p'
      rw [g1, bN, if_neg (show ¬ (1 : Int32) = 0 by decide), g2, bN, if_neg (show ¬ (1 : Int32) = 0 by decide), nextC hT hp', bN, f_X10_fault_L91]
      by_cases z0 : tq bt n p' = n
      · have es : so bt n p' = 0 := if_pos z0
        rw [if_pos (show nI (so bt n p') = 0 by rw [es]; rfl), if_pos (show nI n ≤ nI (tq bt n p') by rw [z0]; exact nI_le (Nat.le_refl _) (by omega)), st1]
        exact Or.inr ⟨k + 1, _, _, _, _, _, _, _, _, _, _, _, _, _, _, _, _, _, _, by omega, rfl, rfl, g3⟩
      · have hlt : tq bt n p' < n := by omega
        have es : so bt n p' = sr (bt (tq bt n p')) := if_neg z0
        obtain ⟨-, hy, hb⟩ := hT.2 _ hlt
        have hr := sr_r (bt (tq bt n p'))
        rw [if_neg (show ¬ nI (so bt n p') = 0 from nI_ne0 (by omega) (by omega)), if_neg (nI_ge hlt (by omega)), nI_sub' he'.1]
        have hJ : f_X10_fault_J142 (f_X10_fault_L91 (nI n) yt f2) (nI n) (nI (k + 1)) (nI (te bt n p')) (nI (tq bt n p')) (nI (te bt n p')) w' h' la' yt rd' rr' = some (nI (tq bt n p'), nI (k + 1), nI (te bt n p'), nI (tq bt n p'), nI (te bt n p'), w', h', la', rd', rr') := rfl
        have c59 : (nI (bt (tq bt n p')) = 59 ↔ so bt n p' = 3) := by
          rw [es, sr_3]
          exact nI_eq (by omega) (b := 59) (by decide)
        have href : (if nI (te bt n p' - tq bt n p') = 1 then gd (ib (nI (tq bt n p')) 200) (if yt (Int32.toNatClampNeg (nI (tq bt n p'))) = 59 then if 10 ≤ nI (k + 1) then f_X10_fault_J142 (f_X10_fault_L91 (nI n) yt f2) (nI n) (nI (k + 1)) (nI (te bt n p')) (nI (tq bt n p')) (nI (te bt n p')) w' h' la' yt rd' rr' else f_X10_fault_J143 (f_X10_fault_L91 (nI n) yt f2) (nI n) (nI (k + 1)) (nI (te bt n p')) (nI (tq bt n p')) (nI (te bt n p')) w' h' la' yt rd' rr' 1 else f_X10_fault_J142 (f_X10_fault_L91 (nI n) yt f2) (nI n) (nI (k + 1)) (nI (te bt n p')) (nI (tq bt n p')) (nI (te bt n p')) w' h' la' yt rd' rr') else f_X10_fault_J142 (f_X10_fault_L91 (nI n) yt f2) (nI n) (nI (k + 1)) (nI (te bt n p')) (nI (tq bt n p')) (nI (te bt n p')) w' h' la' yt rd' rr') = some (nI (tq bt n p'), nI (k + 1), nI (te bt n p'), nI (tq bt n p'), nI (te bt n p'), w', h', la', rd', rr') := by
          rw [hJ, gd_t (ib_nI (show tq bt n p' < 200 by omega) (by decide)), if_pos (show (10 : Int32) ≤ nI (k + 1) by rw [show k + 1 = 10 by omega]; decide)]
          split
          · split <;> rfl
          · rfl
        rw [href]
        have hcl : ∀ (x : Option FC), (x = some (nI (tq bt n p'), nI (so bt n p'), nI (tq bt n p'), nI (te bt n p'), nI (k + 1), parts', w', h', fa', la', nh', nt', gr', wi', lp')) → FOut s0 x (some (nI (tq bt n p'), nI (k + 1), nI (te bt n p'), nI (tq bt n p'), nI (te bt n p'), w', h', la', rd', rr')) := fun x hx => Or.inl ⟨_, _, tq bt n p', by omega, hx, rfl, rfl, rfl⟩
        apply hcl
        by_cases z3 : so bt n p' = 3
        · rw [if_pos (show nI (so bt n p') = 3 by rw [z3]; rfl), st1, f_X5_read_L17, if_pos (show (10 : Int32) ≤ nI (k + 1) by rw [show k + 1 = 10 by omega]; decide)]
          unfold f_X5_read_J82
          rfl
        · rw [if_neg (fun y : nI (so bt n p') = 3 => z3 ((nI_eq (by omega) (by decide)).mp (show _ = nI 3 from y))), st1]
          unfold f_X5_read_J71
          rfl
  | succ d ih =>
    intro k f1 f2 p s st pl en parts w h fa la nh nt gr wi lp rW rH rL rd rr hk hf1 hf2 hp R
    obtain ⟨f1, rfl⟩ : ∃ m, f1 = m + 1 := ⟨f1 - 1, by omega⟩
    obtain ⟨f2, rfl⟩ : ∃ m, f2 = m + 1 := ⟨f2 - 1, by omega⟩
    rw [f_X5_read_L17, if_neg (show ¬ (10 : Int32) ≤ nI k from nI_ge (b := 10) (by omega) (by decide)), nextC hT hp, bN]
    unfold RF
    rw [tokM hT hp, bN]
    rcases Ln_all hT hp (show k ≤ 9 by omega) R parts with ⟨y1, y2, g1, g2, g3, g4, q, g5, g6, g7⟩ | ⟨p', s', q', parts', w', h', fa', la', nh', nt', gr', wi', lp', rd', rr', hp', g1, g2, g3⟩
    · rw [g1, bN, if_pos g3, g2, bN, if_pos g4]
      unfold f_X5_read_J35
      exact Or.inl ⟨_, _, q, g5, rfl, rfl, g6, g7⟩
    · have hq' := tq_le bt hp'
      have he' := te_le bt hp'
      have hso := so_r bt n p'
      rw [g1, bN, if_neg (show ¬ (1 : Int32) = 0 by decide), g2, bN, if_neg (show ¬ (1 : Int32) = 0 by decide), nextC hT hp', bN, f_X10_fault_L91]
      by_cases z0 : tq bt n p' = n
      · have es : so bt n p' = 0 := if_pos z0
        rw [if_pos (show nI (so bt n p') = 0 by rw [es]; rfl), if_pos (show nI n ≤ nI (tq bt n p') by rw [z0]; exact nI_le (Nat.le_refl _) (by omega)), st1]
        exact Or.inr ⟨k + 1, _, _, _, _, _, _, _, _, _, _, _, _, _, _, _, _, _, _, by omega, rfl, rfl, g3⟩
      · have hlt : tq bt n p' < n := by omega
        have es : so bt n p' = sr (bt (tq bt n p')) := if_neg z0
        obtain ⟨-, hy, hb⟩ := hT.2 _ hlt
        have hr := sr_r (bt (tq bt n p'))
        rw [if_neg (show ¬ nI (so bt n p') = 0 from nI_ne0 (by omega) (by omega)), if_neg (nI_ge hlt (by omega)), nI_sub' he'.1]
        have hJ : f_X10_fault_J142 (f_X10_fault_L91 (nI n) yt f2) (nI n) (nI (k + 1)) (nI (te bt n p')) (nI (tq bt n p')) (nI (te bt n p')) w' h' la' yt rd' rr' = some (nI (tq bt n p'), nI (k + 1), nI (te bt n p'), nI (tq bt n p'), nI (te bt n p'), w', h', la', rd', rr') := rfl
        have c59 : (nI (bt (tq bt n p')) = 59 ↔ so bt n p' = 3) := by
          rw [es, sr_3]
          exact nI_eq (by omega) (b := 59) (by decide)
        by_cases z3 : so bt n p' = 3
        · have z3' : sr (bt (tq bt n p')) = 3 := by rw [← es]; exact z3
          have hte : te bt n p' = tq bt n p' + 1 := by
            unfold te
            rw [if_neg z0, if_neg (by omega)]
          rw [if_pos (show nI (so bt n p') = 3 by rw [z3]; rfl), st1, if_pos (show nI (te bt n p' - tq bt n p') = 1 by rw [hte, Nat.add_sub_cancel_left]; rfl), gd_t (ib_nI (show tq bt n p' < 200 by omega) (by decide)), nI_clamp (by omega), hy, if_pos (c59.mpr z3), if_neg (show ¬ (10 : Int32) ≤ nI (k + 1) from nI_ge (b := 10) (by omega) (by decide)), J143_RF]
          exact ih (k + 1) f1 f2 (te bt n p') _ _ _ _ _ _ _ _ _ _ _ _ _ _ _ _ _ _ _ (by omega) (by omega) (by omega) he'.2.1 g3
        · have hne : ¬ nI (bt (tq bt n p')) = 59 := fun y => z3 (c59.mp y)
          rw [if_neg (fun y : nI (so bt n p') = 3 => z3 ((nI_eq (by omega) (by decide)).mp (show _ = nI 3 from y))), gd_t (ib_nI (show tq bt n p' < 200 by omega) (by decide)), nI_clamp (by omega), hy, if_neg hne, hJ]
          unfold f_X5_read_J71
          rw [ite_self]
          exact Or.inl ⟨_, _, tq bt n p', by omega, rfl, rfl, rfl, rfl⟩
theorem rr_L40 (len mn at' pl en rW rH rL : Int32) (row yt rd : Nat → Int32) : ∀ (d j fu : Nat) (rr : Nat → Int32), j + d = 36 → d < fu → ∃ rr', f_X10_fault_L40 len mn at' pl en rW rH rL row yt rd fu (nI j) rr = f_X10_fault_J75 len mn at' pl en rW rH rL yt rd rr' ∧ ∀ c, rr' c = if j ≤ c ∧ c < 36 then (if row (2 + c) = -1 then 0 else 1) else rr c := by
  intro d
  induction d with
  | zero =>
    intro j fu rr hj hfu
    obtain ⟨fu, rfl⟩ : ∃ m, fu = m + 1 := ⟨fu - 1, by omega⟩
    have : j = 36 := by omega
    subst this
    exact ⟨rr, by rw [f_X10_fault_L40, if_pos (show (36 : Int32) ≤ nI 36 by decide)], fun c => by rw [if_neg (by omega)]⟩
  | succ d ih =>
    intro j fu rr hj hfu
    obtain ⟨fu, rfl⟩ : ∃ m, fu = m + 1 := ⟨fu - 1, by omega⟩
    obtain ⟨rr', h1, h2⟩ := ih (j + 1) fu (upd rr j (if row (2 + j) = -1 then 0 else 1)) (by omega) (by omega)
    refine ⟨rr', ?_, fun c => ?_⟩
    · rw [← h1, f_X10_fault_L40, if_neg (show ¬ (36 : Int32) ≤ nI j from nI_ge (b := 36) (by omega) (by decide))]
      unfold f_X10_fault_J68
      simp only [show (2 : Int32) + nI j = nI (2 + j) from nI_add 2 j, gd_t (ib_nI (show 2 + j < 558 by omega) (show 558 < 2 ^ 31 by decide)), gd_t (ib_nI (show j < 36 by omega) (show 36 < 2 ^ 31 by decide)), nI_clamp (show 2 + j < 2 ^ 31 by omega), nI_clamp (show j < 2 ^ 31 by omega), st1, show vp_nar .boolean 0 = 0 from rfl, show vp_nar .boolean 1 = 1 from rfl]
      by_cases z : row (2 + j) = -1
      · rw [if_pos z, if_pos z]
      · rw [if_neg z, if_neg z]
    · rw [h2]
      by_cases q : c = j
      · subst q
        rw [if_neg (show ¬ (c + 1 ≤ c ∧ c < 36) by omega), upd_same, if_pos (show c ≤ c ∧ c < 36 by omega)]
      · rw [upd_ne _ _ q]
        by_cases q2 : j ≤ c ∧ c < 36
        · rw [if_pos (by omega), if_pos q2]
        · rw [if_neg (by omega), if_neg q2]
theorem fault_both {X : Nat → Int32} {XA : Nat → Nat → Int32} {Y : Nat → Int32} {YA : Nat → Nat → Int32} (h : RR X XA Y YA) : FOut (Y 2, Y 3, Y 4, Y 5, YA 0, YA 4) (f_X5_read (X 1) (X 2) (X 3) (X 4) (XA 1) (X 0) (XA 0) (X 5) (X 6) (X 7) (X 8) (X 9) (X 10) (cp (XA 5) (XA 2) 36) (cp (XA 6) (XA 3) 6) (cp (XA 7) (XA 4) 18)) (f_X10_fault (Y 0) (Y 1) (Y 2) (Y 6) (Y 7) (Y 8) (Y 9) (Y 10) (Y 11) (YA 0) (YA 2) (YA 3) (YA 5)) := by
  obtain ⟨⟨n, hn, t1, t2, t3⟩, hcan, hlaw, -⟩ := h
  have hT : okT n (fun i => sN (XA 0 i)) (XA 0) (YA 2) := ⟨hn, fun i hi => by
    obtain ⟨e1, c, hc, e2⟩ := t3 i hi
    have e3 : sN (XA 0 i) = c := by rw [e2]; exact sN_nI (by omega)
    exact ⟨by show XA 0 i = nI (sN (XA 0 i)); rw [e3, e2], by show YA 2 i = nI (sN (XA 0 i)); rw [e3, ← e1, e2], by show sN (XA 0 i) < 256; rw [e3]; exact hc⟩⟩
  have hcan2 : RCan (X 5) (X 6) (cp (XA 5) (XA 2) 36) (cp (XA 6) (XA 3) 6) (YA 0) 0 := RCan_cp hcan (fun i hi => cp_lt _ _ hi) (fun i hi => cp_lt _ _ hi) (fun i _ => rfl)
  have hlaw2 : RLaw (X 7) (X 8) (X 9) (X 10) (cp (XA 7) (XA 4) 18) (Y 5) (Y 2) (Y 3) (Y 4) (YA 4) := RLaw_cp hlaw rfl rfl rfl rfl (fun i hi => cp_lt _ _ hi)
  obtain ⟨rr', r1, r2⟩ := rr_L40 (Y 0) 0 0 (Y 7) (Y 8) (YA 0 0) (YA 0 1) (Y 2) (YA 0) (YA 2) (YA 3) 36 0 FU (YA 5) (by decide) (by decide)
  have hc := hcan2
  obtain ⟨a, b, q1, q2, q3, q4, q5, q6, q7, q8, q9, q10⟩ := hc
  simp only [Nat.zero_add] at q7 q8 q9
  have R : RdS (X 5) (X 6) (X 7) (X 8) (X 9) (X 10) (cp (XA 5) (XA 2) 36) (cp (XA 6) (XA 3) 6) (cp (XA 7) (XA 4) 18) (YA 0 0) (YA 0 1) (Y 2) rr' (YA 3) 0 (Y 2, Y 3, Y 4, Y 5, YA 0, YA 4) := by
    refine ⟨q7.trans q5.symm, q8.trans q6.symm, hlaw.2.1, fun c hc => ?_, (Y 2, Y 3, Y 4, Y 5, YA 0, YA 4), ⟨hcan2, hlaw2⟩, fun rd' _ => rfl⟩
    rw [r2, if_pos ⟨Nat.zero_le _, hc⟩, (q9 c hc).1]
  have key := rd_loop hT (Y 2, Y 3, Y 4, Y 5, YA 0, YA 4) 9 0 FU FU 0 (X 1) (X 2) (Y 7) (Y 8) (XA 1) (X 5) (X 6) (X 7) (X 8) (X 9) (X 10) (cp (XA 5) (XA 2) 36) (cp (XA 6) (XA 3) 6) (cp (XA 7) (XA 4) 18) (YA 0 0) (YA 0 1) (Y 2) (YA 3) rr' (by decide) (by decide) (by decide) (Nat.zero_le _) R
  have e1 : f_X5_read (X 1) (X 2) (X 3) (X 4) (XA 1) (X 0) (XA 0) (X 5) (X 6) (X 7) (X 8) (X 9) (X 10) (cp (XA 5) (XA 2) 36) (cp (XA 6) (XA 3) 6) (cp (XA 7) (XA 4) 18) = f_X5_read_L17 (nI n) (XA 0) FU (nI 0) (X 1) (X 2) (nI 0) (nI 0) (XA 1) (X 5) (X 6) (X 7) (X 8) (X 9) (X 10) (cp (XA 5) (XA 2) 36) (cp (XA 6) (XA 3) 6) (cp (XA 7) (XA 4) 18) := by
    unfold f_X5_read
    rw [t1]
    rfl
  have e2 : f_X10_fault (Y 0) (Y 1) (Y 2) (Y 6) (Y 7) (Y 8) (Y 9) (Y 10) (Y 11) (YA 0) (YA 2) (YA 3) (YA 5) = RF n (YA 2) FU 0 0 (Y 7) (Y 8) (YA 0 0) (YA 0 1) (Y 2) (YA 3) rr' := by
    have r1' : f_X10_fault_L40 (Y 0) 0 0 (Y 7) (Y 8) (YA 0 0) (YA 0 1) (Y 2) (YA 0) (YA 2) (YA 3) FU 0 (YA 5) = _ := r1
    unfold f_X10_fault
    rw [gd_t ib0, gd_t ib1, cl0, cl1, r1', t2]
    rfl
  rw [e1, e2]
  exact key
set_option maxRecDepth 20000 in
theorem ob_fault : Ob_fault RR := by
  intro X XA XL Y YA h
  unfold f_X9_fault
  rw [copy2, bN]
  rcases fault_both h with ⟨y1, y2, q, -, g1, g2, g3, g4⟩ | ⟨m, s, st, en, parts, w, h', fa, la, nh, nt, gr, wi, lp, at', pl, en2, rd, rr, hm, g1, g2, -⟩
  · rw [g1, bN, g2]
    exact ⟨_, _, rfl, rfl, g3.trans g4.symm, h⟩
  · rw [g1, bN, g2]
    exact ⟨_, _, rfl, rfl, rfl, h⟩
end M79
