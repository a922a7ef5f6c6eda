section M75
/-! what a line does -/
abbrev TS := Int32 × Int32 × Int32 × Int32 × (Nat → Int32) × (Nat → Int32)
def tellS (s : TS) (rd : Nat → Int32) (x : Int32) : Option TS := f_X10_tell s.1 s.2.1 s.2.2.1 s.2.2.2.1 s.2.2.2.2.1 rd s.2.2.2.2.2 x
def TR (w h fa la nh nt : Int32) (gr wi lp : Nat → Int32) (s : TS) : Prop := RCan w h gr wi s.2.2.2.2.1 0 ∧ RLaw fa la nh nt lp s.2.2.2.1 s.1 s.2.1 s.2.2.1 s.2.2.2.2.2
theorem b4 (k : Nat) : nI (4 * k) + 1 = nI (4 * k + 1) ∧ nI (4 * k) + 2 = nI (4 * k + 2) ∧ nI (4 * k) + 3 = nI (4 * k + 3) := ⟨nI_add _ 1, nI_add _ 2, nI_add _ 3⟩
theorem tell_L89 (lm ni ti fd : Int32) (laws : Nat → Int32) : ∀ (d j fu : Nat) (row : Nat → Int32), j + d = 44 → d < fu → ∃ row', f_X10_tell_L89 lm ni ti fd laws fu (nI j) row = some (lm, ni, ti, fd, row', laws) ∧ ∀ i, row' i = if j ≤ i ∧ i < 44 then -1 else row i := by
  intro d
  induction d with
  | zero =>
    intro j fu row hj hfu
    obtain ⟨fu, rfl⟩ : ∃ m, fu = m + 1 := ⟨fu - 1, by omega⟩
    have : j = 44 := by omega
    subst this
    exact ⟨row, by rw [f_X10_tell_L89, if_pos (show (44 : Int32) ≤ nI 44 by decide)], fun i => by rw [if_neg (by omega)]⟩
  | succ d ih =>
    intro j fu row hj hfu
    obtain ⟨fu, rfl⟩ : ∃ m, fu = m + 1 := ⟨fu - 1, by omega⟩
    obtain ⟨row', h1, h2⟩ := ih (j + 1) fu (upd row j (-1)) (by omega) (by omega)
    refine ⟨row', ?_, fun i => ?_⟩
    · rw [← h1, f_X10_tell_L89, if_neg (show ¬ (44 : Int32) ≤ nI j from nI_ge (b := 44) (by omega) (by decide)), gd_t (ib_nI (show j < 558 by omega) (by decide)), st1, nI_clamp (by omega)]
    · rw [h2]
      by_cases q : i = j
      · subst q
        rw [if_neg (by omega), if_pos (by omega), upd_same]
      · rw [upd_ne _ _ q]
        by_cases q2 : j ≤ i ∧ i < 44
        · rw [if_pos (by omega), if_pos q2]
        · rw [if_neg (by omega), if_neg q2]
theorem act_0 {w h fa la nh nt : Int32} {gr wi lp : Nat → Int32} {s : TS} (H : TR w h fa la nh nt gr wi lp s) {k : Nat} (hk : k ≤ 9) {parts : Nat → Int32} {a' b' : Nat} (ha1 : 1 ≤ a') (ha : a' ≤ 6) (hb1 : 1 ≤ b') (hb : b' ≤ 6) (p0 : parts 0 = nI a') (p1 : parts 1 = nI b') : ∃ gr' wi', f_X5_carryOut parts w h fa la nh nt gr wi lp (nI 1) = some (nI a', nI b', fa, la, nh, nt, gr', wi', lp) ∧ (∀ i, i < 36 → gr' i = -1) ∧ ∃ s', (∀ rd, rd (4 * k) = nI 0 → rd (4 * k + 1) = nI a' → rd (4 * k + 2) = nI b' → tellS s rd (nI (4 * k)) = some s') ∧ TR (nI a') (nI b') fa la nh nt gr' wi' lp s' := by
  obtain ⟨g1, f1, f2⟩ := fillC (-1) (show 36 < 4000 by decide) gr
  obtain ⟨w1, f3, f4⟩ := fillC (-1) (show 6 < 4000 by decide) wi
  have e : f_X5_carryOut parts w h fa la nh nt gr wi lp (nI 1) = (f_X2_lay w h gr wi (parts 0) (parts 1)).bind (fun z80 => (some (z80.1, z80.2.1, fa, la, nh, nt, z80.2.2.1, z80.2.2.2, lp))) := rfl
  refine ⟨g1, w1, ?_, fun i hi => by rw [f2, if_pos hi], ?_⟩
  · rw [e]
    unfold f_X2_lay
    rw [f1, bN, f3, bN, bN, p0, p1]
  · obtain ⟨row', t1, t2⟩ := tell_L89 s.1 s.2.1 s.2.2.1 s.2.2.2.1 s.2.2.2.2.2 42 2 FU (upd (upd s.2.2.2.2.1 0 (nI a')) 1 (nI b')) (by decide) (by decide)
    refine ⟨(s.1, s.2.1, s.2.2.1, s.2.2.2.1, row', s.2.2.2.2.2), fun rd r0 r1 r2 => ?_, ?_, H.2⟩
    · unfold tellS f_X10_tell
      simp only [(b4 k).1, (b4 k).2.1, gd_t (ib_nI (show 4 * k < 40 by omega) (show 40 < 2 ^ 31 by decide)), gd_t (ib_nI (show 4 * k + 1 < 40 by omega) (show 40 < 2 ^ 31 by decide)), gd_t (ib_nI (show 4 * k + 2 < 40 by omega) (show 40 < 2 ^ 31 by decide)), nI_clamp (show 4 * k < 2 ^ 31 by omega), nI_clamp (show 4 * k + 1 < 2 ^ 31 by omega), nI_clamp (show 4 * k + 2 < 2 ^ 31 by omega), r0, r1, r2]
      rw [if_pos (show nI 0 = 0 from rfl), gd_t ib0, gd_t ib1]
      exact t1
    · refine ⟨a', b', ha1, ha, hb1, hb, rfl, rfl, ?_, ?_, fun i hi => ⟨?_, Or.inl (by rw [f2, if_pos hi])⟩, fun p hp => ⟨?_, Or.inl (by rw [f4, if_pos hp])⟩⟩
      · show row' 0 = nI a'
        rw [t2, if_neg (by omega), upd_ne _ _ (by omega), upd_same]
      · show row' (0 + 1) = nI b'
        rw [t2, if_neg (by omega), upd_same]
      · show row' (0 + (2 + i)) = g1 i
        rw [t2, if_pos (by omega), f2, if_pos hi]
      · show row' (0 + (38 + p)) = w1 p
        rw [t2, if_pos (by omega), f4, if_pos hp]
theorem act_1 {a b : Nat} (ha1 : 1 ≤ a) (ha : a ≤ 6) (hb1 : 1 ≤ b) (hb : b ≤ 6) {fa la nh nt : Int32} {gr wi lp : Nat → Int32} {s : TS} (H : TR (nI a) (nI b) fa la nh nt gr wi lp s) {k : Nat} (hk : k ≤ 9) {parts : Nat → Int32} {x y u : Nat} (hx : x < a) (hy : y < b) (hu : u ≤ 99) (p0 : parts 0 = nI x) (p1 : parts 1 = nI y) (p2 : parts 2 = nI u) : ∃ wi', f_X5_carryOut parts (nI a) (nI b) fa la nh nt gr wi lp (nI 2) = some (nI a, nI b, fa, la, nh, nt, upd gr (a * y + x) (nI u), wi', lp) ∧ ∃ s', (∀ rd, rd (4 * k) = nI 1 → rd (4 * k + 1) = nI (a * y + x) → rd (4 * k + 2) = nI u → tellS s rd (nI (4 * k)) = some s') ∧ TR (nI a) (nI b) fa la nh nt (upd gr (a * y + x) (nI u)) wi' lp s' := by
  have h36 := mul_le36 ha hb
  have hc := cell_lt hx hy
  obtain ⟨wi', w1, w2⟩ := putRockC gr wi (show nI a = nI a from rfl) (show nI b = nI b from rfl) ha hb hc (nI u)
  have e : f_X5_carryOut parts (nI a) (nI b) fa la nh nt gr wi lp (nI 2) = (f_X2_cellAt (nI a) (nI b) (parts 0) (parts 1)).bind (fun z91 => (f_X2_putRock (nI a) (nI b) gr wi z91 (parts 2)).bind (fun z96 => (some (nI a, nI b, fa, la, nh, nt, z96.1, z96.2, lp)))) := rfl
  obtain ⟨row', hr', hr2, hr3⟩ := drive_L2M (nI (a * y + x)) 6 0 FU (upd s.2.2.2.2.1 (2 + (a * y + x)) (nI u)) rfl (by decide)
  refine ⟨wi', ?_, (s.1, s.2.1, s.2.2.1, s.2.2.2.1, row', s.2.2.2.2.2), fun rd r0 r1 r2 => ?_, ?_, H.2⟩
  · rw [e, p0, p1, p2, cellAtC ha hb hx hy, bN, w1, bN]
  · have hr'' : f_X10_drive (upd s.2.2.2.2.1 (2 + (a * y + x)) (nI u)) (nI (a * y + x)) = some row' := hr'
    unfold tellS f_X10_tell
    simp only [(b4 k).1, (b4 k).2.1, gd_t (ib_nI (show 4 * k < 40 by omega) (show 40 < 2 ^ 31 by decide)), gd_t (ib_nI (show 4 * k + 1 < 40 by omega) (show 40 < 2 ^ 31 by decide)), gd_t (ib_nI (show 4 * k + 2 < 40 by omega) (show 40 < 2 ^ 31 by decide)), nI_clamp (show 4 * k < 2 ^ 31 by omega), nI_clamp (show 4 * k + 1 < 2 ^ 31 by omega), nI_clamp (show 4 * k + 2 < 2 ^ 31 by omega), r0, r1, r2, show (2 : Int32) + nI (a * y + x) = nI (2 + (a * y + x)) from nI_add 2 _, gd_t (ib_nI (show 2 + (a * y + x) < 558 by omega) (show 558 < 2 ^ 31 by decide)), nI_clamp (show 2 + (a * y + x) < 2 ^ 31 by omega), hr'', bN]
    rw [if_neg (show ¬ nI 1 = 0 by decide), if_pos (show nI 1 = 1 from rfl)]
  · obtain ⟨⟨a2, b2, q1, q2, q3, q4, q5, q6, hr0, hr1, hg, hp⟩, -⟩ := H
    have ea : a2 = a := ((nI_eq (by omega) (by omega)).mp q5).symm
    have eb : b2 = b := ((nI_eq (by omega) (by omega)).mp q6).symm
    subst ea
    subst eb
    simp only [Nat.zero_add] at hr0 hr1 hg hp
    have far : ∀ i, (i < 38 ∧ i ≠ 2 + (a2 * y + x)) ∨ 44 ≤ i → row' i = s.2.2.2.2.1 i := fun i hi => by rw [hr3 i (fun p _ h6 => by omega), upd_ne _ _ (by omega)]
    refine ⟨a2, b2, ha1, ha, hb1, hb, rfl, rfl, (far 0 (by omega)).trans hr0, (far 1 (by omega)).trans hr1, fun i hi => ?_, fun p hp6 => ?_⟩
    · show row' (0 + (2 + i)) = upd gr (a2 * y + x) (nI u) i ∧ (upd gr (a2 * y + x) (nI u) i = -1 ∨ ∃ c : Nat, c ≤ 99 ∧ upd gr (a2 * y + x) (nI u) i = nI c)
      rw [Nat.zero_add]
      by_cases hij : i = a2 * y + x
      · rw [hij, upd_same]
        exact ⟨(hr3 _ (fun p _ h6 => by omega)).trans (upd_same _ _ _), Or.inr ⟨u, hu, rfl⟩⟩
      · rw [upd_ne _ _ hij]
        exact ⟨(far _ (by omega)).trans (hg i hi).1, (hg i hi).2⟩
    · show row' (0 + (38 + p)) = wi' p ∧ (wi' p = -1 ∨ ∃ c, c < a2 * b2 ∧ wi' p = nI c ∧ upd gr (a2 * y + x) (nI u) c = -1)
      rw [Nat.zero_add, hr2 p (Nat.zero_le _) hp6, upd_ne _ _ (by omega), (hp p hp6).1, w2 p]
      by_cases q : wi p = nI (a2 * y + x)
      · rw [if_pos q, if_pos ⟨hp6, q⟩]
        exact ⟨rfl, Or.inl rfl⟩
      · rw [if_neg q, if_neg (fun z => q z.2)]
        refine ⟨rfl, ?_⟩
        rcases (hp p hp6).2 with z | ⟨c, z1, z2, z3⟩
        · exact Or.inl z
        · exact Or.inr ⟨c, z1, z2, (upd_ne _ _ (fun e => q (by rw [z2, e]))).trans z3⟩
theorem act_2 {a b : Nat} (ha1 : 1 ≤ a) (ha : a ≤ 6) (hb1 : 1 ≤ b) (hb : b ≤ 6) {fa la nh nt : Int32} {gr wi lp : Nat → Int32} {s : TS} (H : TR (nI a) (nI b) fa la nh nt gr wi lp s) {k : Nat} (hk : k ≤ 9) {parts : Nat → Int32} {x y : Nat} (hx : x < a) (hy : y < b) (p0 : parts 0 = nI x) (p1 : parts 1 = nI y) : f_X5_carryOut parts (nI a) (nI b) fa la nh nt gr wi lp (nI 3) = some (nI a, nI b, fa, la, nh, nt, upd gr (a * y + x) (-1), wi, lp) ∧ ∃ s', (∀ rd, rd (4 * k) = nI 2 → rd (4 * k + 1) = nI (a * y + x) → tellS s rd (nI (4 * k)) = some s') ∧ TR (nI a) (nI b) fa la nh nt (upd gr (a * y + x) (-1)) wi lp s' := by
  have h36 := mul_le36 ha hb
  have hc := cell_lt hx hy
  have e : f_X5_carryOut parts (nI a) (nI b) fa la nh nt gr wi lp (nI 3) = (f_X2_cellAt (nI a) (nI b) (parts 0) (parts 1)).bind (fun z107 => (f_X2_putFloor (nI a) (nI b) gr z107).bind (fun z110 => (some (nI a, nI b, fa, la, nh, nt, z110, wi, lp)))) := rfl
  refine ⟨?_, (s.1, s.2.1, s.2.2.1, s.2.2.2.1, upd s.2.2.2.2.1 (2 + (a * y + x)) (-1), s.2.2.2.2.2), fun rd r0 r1 => ?_, ?_, H.2⟩
  · rw [e, p0, p1, cellAtC ha hb hx hy, bN]
    unfold f_X2_putFloor
    rw [has_nI rfl rfl ha hb hc, bN, i10, gd_t (ib_nI (show a * y + x < 36 by omega) (by decide)), nI_clamp (by omega), bN]
  · unfold tellS f_X10_tell
    simp only [(b4 k).1, (b4 k).2.1, gd_t (ib_nI (show 4 * k < 40 by omega) (show 40 < 2 ^ 31 by decide)), gd_t (ib_nI (show 4 * k + 1 < 40 by omega) (show 40 < 2 ^ 31 by decide)), gd_t (ib_nI (show 4 * k + 2 < 40 by omega) (show 40 < 2 ^ 31 by decide)), nI_clamp (show 4 * k < 2 ^ 31 by omega), nI_clamp (show 4 * k + 1 < 2 ^ 31 by omega), r0, r1, show (2 : Int32) + nI (a * y + x) = nI (2 + (a * y + x)) from nI_add 2 _, gd_t (ib_nI (show 2 + (a * y + x) < 558 by omega) (show 558 < 2 ^ 31 by decide)), nI_clamp (show 2 + (a * y + x) < 2 ^ 31 by omega)]
    rw [if_neg (show ¬ nI 2 = 0 by decide), if_neg (show ¬ nI 2 = 1 by decide), if_pos (show nI 2 = 2 from rfl)]
  · obtain ⟨⟨a2, b2, q1, q2, q3, q4, q5, q6, hr0, hr1, hg, hp⟩, -⟩ := H
    have ea : a2 = a := ((nI_eq (by omega) (by omega)).mp q5).symm
    have eb : b2 = b := ((nI_eq (by omega) (by omega)).mp q6).symm
    subst ea
    subst eb
    refine ⟨a2, b2, ha1, ha, hb1, hb, rfl, rfl, (upd_ne _ _ (by omega)).trans hr0, (upd_ne _ _ (by omega)).trans hr1, fun i hi => ?_, fun p hp6 => ?_⟩
    · show upd s.2.2.2.2.1 (2 + (a2 * y + x)) (-1) (0 + (2 + i)) = upd gr (a2 * y + x) (-1) i ∧ (upd gr (a2 * y + x) (-1) i = -1 ∨ ∃ c : Nat, c ≤ 99 ∧ upd gr (a2 * y + x) (-1) i = nI c)
      by_cases hij : i = a2 * y + x
      · rw [hij, upd_same, Nat.zero_add, upd_same]
        exact ⟨rfl, Or.inl rfl⟩
      · rw [upd_ne _ _ hij, upd_ne _ _ (by omega)]
        exact hg i hi
    · show upd s.2.2.2.2.1 (2 + (a2 * y + x)) (-1) (0 + (38 + p)) = wi p ∧ (wi p = -1 ∨ ∃ c, c < a2 * b2 ∧ wi p = nI c ∧ upd gr (a2 * y + x) (-1) c = -1)
      rw [upd_ne _ _ (by omega)]
      refine ⟨(hp p hp6).1, ?_⟩
      rcases (hp p hp6).2 with z | ⟨c, z1, z2, z3⟩
      · exact Or.inl z
      · refine Or.inr ⟨c, z1, z2, ?_⟩
        by_cases q : c = a2 * y + x
        · rw [q, upd_same]
        · rw [upd_ne _ _ q]; exact z3
theorem act_34 {a b : Nat} {fa la nh nt : Int32} {gr wi lp : Nat → Int32} {s : TS} (ha1 : 1 ≤ a) (ha : a ≤ 6) (hb1 : 1 ≤ b) (hb : b ≤ 6) (H : TR (nI a) (nI b) fa la nh nt gr wi lp s) {t : Nat} (ht : t < 6) {v : Int32} (hv : v = -1 ∨ ∃ c : Nat, c < a * b ∧ v = nI c ∧ gr c = -1) : TR (nI a) (nI b) fa la nh nt gr (upd wi t v) lp (s.1, s.2.1, s.2.2.1, s.2.2.2.1, upd s.2.2.2.2.1 (38 + t) v, s.2.2.2.2.2) := by
  obtain ⟨⟨a2, b2, q1, q2, q3, q4, q5, q6, hr0, hr1, hg, hp⟩, hl⟩ := H
  have ea : a2 = a := ((nI_eq (by omega) (by omega)).mp q5).symm
  have eb : b2 = b := ((nI_eq (by omega) (by omega)).mp q6).symm
  subst ea
  subst eb
  refine ⟨⟨a2, b2, ha1, ha, hb1, hb, rfl, rfl, (upd_ne _ _ (by omega)).trans hr0, (upd_ne _ _ (by omega)).trans hr1, fun i hi => ?_, fun p hp6 => ?_⟩, hl⟩
  · show upd s.2.2.2.2.1 (38 + t) v (0 + (2 + i)) = gr i ∧ _
    rw [upd_ne _ _ (by omega)]
    exact hg i hi
  · show upd s.2.2.2.2.1 (38 + t) v (0 + (38 + p)) = upd wi t v p ∧ (upd wi t v p = -1 ∨ ∃ c, c < a2 * b2 ∧ upd wi t v p = nI c ∧ gr c = -1)
    by_cases q : p = t
    · rw [q, upd_same, Nat.zero_add, upd_same]
      exact ⟨rfl, hv⟩
    · rw [upd_ne _ _ q, upd_ne _ _ (by omega)]
      exact hp p hp6
theorem place_nI (wi : Nat → Int32) {t : Nat} (ht : t < 6) (v : Int32) : f_X2_place wi (nI t) v = some (upd wi t v) := by
  unfold f_X2_place
  rw [isP1 t ht, bN, i10, gd_t (ib_nI ht (by decide)), nI_clamp (by omega)]
theorem act_3 {a b : Nat} (ha1 : 1 ≤ a) (ha : a ≤ 6) (hb1 : 1 ≤ b) (hb : b ≤ 6) {fa la nh nt : Int32} {gr wi lp : Nat → Int32} {s : TS} (H : TR (nI a) (nI b) fa la nh nt gr wi lp s) {k : Nat} (hk : k ≤ 9) {parts : Nat → Int32} {x y t : Nat} (ht : t < 6) (hx : x < a) (hy : y < b) (hgc : gr (a * y + x) = -1) (p0 : parts 0 = nI t) (p1 : parts 1 = nI x) (p2 : parts 2 = nI y) : f_X5_carryOut parts (nI a) (nI b) fa la nh nt gr wi lp (nI 4) = some (nI a, nI b, fa, la, nh, nt, gr, upd wi t (nI (a * y + x)), lp) ∧ ∃ s', (∀ rd, rd (4 * k) = nI 3 → rd (4 * k + 1) = nI t → rd (4 * k + 2) = nI (a * y + x) → tellS s rd (nI (4 * k)) = some s') ∧ TR (nI a) (nI b) fa la nh nt gr (upd wi t (nI (a * y + x))) lp s' := by
  have h36 := mul_le36 ha hb
  have hc := cell_lt hx hy
  have e : f_X5_carryOut parts (nI a) (nI b) fa la nh nt gr wi lp (nI 4) = (f_X2_cellAt (nI a) (nI b) (parts 1) (parts 2)).bind (fun z123 => (f_X2_place wi (parts 0) z123).bind (fun z126 => (some (nI a, nI b, fa, la, nh, nt, gr, z126, lp)))) := rfl
  refine ⟨?_, (s.1, s.2.1, s.2.2.1, s.2.2.2.1, upd s.2.2.2.2.1 (38 + t) (nI (a * y + x)), s.2.2.2.2.2), fun rd r0 r1 r2 => ?_, act_34 ha1 ha hb1 hb H ht (Or.inr ⟨_, hc, rfl, hgc⟩)⟩
  · rw [e, p0, p1, p2, cellAtC ha hb hx hy, bN, place_nI wi ht, bN]
  · unfold tellS f_X10_tell
    simp only [(b4 k).1, (b4 k).2.1, gd_t (ib_nI (show 4 * k < 40 by omega) (show 40 < 2 ^ 31 by decide)), gd_t (ib_nI (show 4 * k + 1 < 40 by omega) (show 40 < 2 ^ 31 by decide)), gd_t (ib_nI (show 4 * k + 2 < 40 by omega) (show 40 < 2 ^ 31 by decide)), nI_clamp (show 4 * k < 2 ^ 31 by omega), nI_clamp (show 4 * k + 1 < 2 ^ 31 by omega), nI_clamp (show 4 * k + 2 < 2 ^ 31 by omega), r0, r1, r2, show (38 : Int32) + nI t = nI (38 + t) from nI_add 38 _, gd_t (ib_nI (show 38 + t < 558 by omega) (show 558 < 2 ^ 31 by decide)), nI_clamp (show 38 + t < 2 ^ 31 by omega)]
    rw [if_neg (show ¬ nI 3 = 0 by decide), if_neg (show ¬ nI 3 = 1 by decide), if_neg (show ¬ nI 3 = 2 by decide), if_pos (show nI 3 = 3 from rfl)]
theorem act_4 {a b : Nat} (ha1 : 1 ≤ a) (ha : a ≤ 6) (hb1 : 1 ≤ b) (hb : b ≤ 6) {fa la nh nt : Int32} {gr wi lp : Nat → Int32} {s : TS} (H : TR (nI a) (nI b) fa la nh nt gr wi lp s) {k : Nat} (hk : k ≤ 9) {parts : Nat → Int32} {t : Nat} (ht : t < 6) (p0 : parts 0 = nI t) : f_X5_carryOut parts (nI a) (nI b) fa la nh nt gr wi lp (nI 5) = some (nI a, nI b, fa, la, nh, nt, gr, upd wi t (-1), lp) ∧ ∃ s', (∀ rd, rd (4 * k) = nI 4 → rd (4 * k + 1) = nI t → tellS s rd (nI (4 * k)) = some s') ∧ TR (nI a) (nI b) fa la nh nt gr (upd wi t (-1)) lp s' := by
  have e : f_X5_carryOut parts (nI a) (nI b) fa la nh nt gr wi lp (nI 5) = (f_X2_place wi (parts 0) (-1)).bind (fun z135 => (some (nI a, nI b, fa, la, nh, nt, gr, z135, lp))) := rfl
  refine ⟨?_, (s.1, s.2.1, s.2.2.1, s.2.2.2.1, upd s.2.2.2.2.1 (38 + t) (-1), s.2.2.2.2.2), fun rd r0 r1 => ?_, act_34 ha1 ha hb1 hb H ht (Or.inl rfl)⟩
  · rw [e, p0, place_nI wi ht, bN]
  · unfold tellS f_X10_tell
    simp only [(b4 k).1, (b4 k).2.1, gd_t (ib_nI (show 4 * k < 40 by omega) (show 40 < 2 ^ 31 by decide)), gd_t (ib_nI (show 4 * k + 1 < 40 by omega) (show 40 < 2 ^ 31 by decide)), gd_t (ib_nI (show 4 * k + 2 < 40 by omega) (show 40 < 2 ^ 31 by decide)), nI_clamp (show 4 * k < 2 ^ 31 by omega), nI_clamp (show 4 * k + 1 < 2 ^ 31 by omega), r0, r1, show (38 : Int32) + nI t = nI (38 + t) from nI_add 38 _, gd_t (ib_nI (show 38 + t < 558 by omega) (show 558 < 2 ^ 31 by decide)), nI_clamp (show 38 + t < 2 ^ 31 by omega)]
    rw [if_neg (show ¬ nI 4 = 0 by decide), if_neg (show ¬ nI 4 = 1 by decide), if_neg (show ¬ nI 4 = 2 by decide), if_neg (show ¬ nI 4 = 3 by decide), if_pos (show nI 4 = 4 from rfl)]
theorem act_5 {w h fa nh nt : Int32} {m : Nat} {gr wi lp : Nat → Int32} {s : TS} (H : TR w h fa (nI m) nh nt gr wi lp s) (hm : m < 6) {k : Nat} (hk : k ≤ 9) {parts : Nat → Int32} {u v c : Nat} (hu1 : 1 ≤ u) (hu : u ≤ 99) (hv : v ≤ 60) (hc1 : 1 ≤ c) (hc : c ≤ 99) (p0 : parts 0 = nI u) (p1 : parts 1 = nI v) (p2 : parts 2 = nI c) : ∃ lp', f_X5_carryOut parts w h fa (nI m) nh nt gr wi lp (nI 6) = some (w, h, fa, nI (m + 1), nh, nt, gr, wi, lp') ∧ ∃ s', (∀ rd, rd (4 * k) = nI 5 → rd (4 * k + 1) = nI u → rd (4 * k + 2) = nI v → rd (4 * k + 3) = nI c → tellS s rd (nI (4 * k)) = some s') ∧ TR w h fa (nI (m + 1)) nh nt gr wi lp' s' := by
  have e : f_X5_carryOut parts w h fa (nI m) nh nt gr wi lp (nI 6) = (f_X2_addLaw (nI m) lp (parts 0) (parts 1) (parts 2)).bind (fun z147 => (some (w, h, fa, z147.1, nh, nt, gr, wi, z147.2))) := rfl
  have c0 : nI m * 3 = nI (3 * m) := by rw [show (3 : Int32) = nI 3 from rfl, nI_mul, Nat.mul_comm]
  have c0' : 3 * nI m = nI (3 * m) := nI_mul 3 m
  have c1 : nI (3 * m) + 1 = nI (3 * m + 1) := nI_add _ 1
  have c2 : nI (3 * m) + 2 = nI (3 * m + 2) := nI_add _ 2
  obtain ⟨hcan, hl1, hl2, hl3, hl4, hl5, hl6, m', hm', hl7, hl8⟩ := H
  have em : m' = m := ((nI_eq (by omega) (by omega)).mp hl7).symm
  subst em
  have es1 : s.1 = nI m' := hl2
  refine ⟨upd (upd (upd lp (3 * m') (nI u)) (3 * m' + 1) (nI v)) (3 * m' + 2) (nI c), ?_, (nI (m' + 1), s.2.1, s.2.2.1, s.2.2.2.1, s.2.2.2.2.1, upd (upd (upd s.2.2.2.2.2 (3 * m') (nI u)) (3 * m' + 1) (nI v)) (3 * m' + 2) (nI c)), fun rd r0 r1 r2 r3 => ?_, hcan, hl1, rfl, hl3, hl4, hl5, hl6, m' + 1, by omega, rfl, fun i hi => ?_⟩
  · rw [e]
    unfold f_X2_addLaw
    rw [if_neg (nI_pos (by omega)), if_pos (show nI m' < 6 from nI_lt (b := 6) hm (by decide))]
    simp only [c0, c1, c2, gd_t (ib_nI (show 3 * m' < 18 by omega) (show 18 < 2 ^ 31 by decide)), gd_t (ib_nI (show 3 * m' + 1 < 18 by omega) (show 18 < 2 ^ 31 by decide)), gd_t (ib_nI (show 3 * m' + 2 < 18 by omega) (show 18 < 2 ^ 31 by decide)), nI_clamp (show 3 * m' < 2 ^ 31 by omega), nI_clamp (show 3 * m' + 1 < 2 ^ 31 by omega), nI_clamp (show 3 * m' + 2 < 2 ^ 31 by omega), st1, bN, p0, p1, p2]
  · unfold tellS f_X10_tell
    simp only [(b4 k).1, (b4 k).2.1, (b4 k).2.2, gd_t (ib_nI (show 4 * k < 40 by omega) (show 40 < 2 ^ 31 by decide)), gd_t (ib_nI (show 4 * k + 1 < 40 by omega) (show 40 < 2 ^ 31 by decide)), gd_t (ib_nI (show 4 * k + 2 < 40 by omega) (show 40 < 2 ^ 31 by decide)), gd_t (ib_nI (show 4 * k + 3 < 40 by omega) (show 40 < 2 ^ 31 by decide)), nI_clamp (show 4 * k < 2 ^ 31 by omega), nI_clamp (show 4 * k + 1 < 2 ^ 31 by omega), nI_clamp (show 4 * k + 2 < 2 ^ 31 by omega), nI_clamp (show 4 * k + 3 < 2 ^ 31 by omega), r0, r1, r2, r3, es1, c0', c1, c2, gd_t (ib_nI (show 3 * m' < 18 by omega) (show 18 < 2 ^ 31 by decide)), gd_t (ib_nI (show 3 * m' + 1 < 18 by omega) (show 18 < 2 ^ 31 by decide)), gd_t (ib_nI (show 3 * m' + 2 < 18 by omega) (show 18 < 2 ^ 31 by decide)), nI_clamp (show 3 * m' < 2 ^ 31 by omega), nI_clamp (show 3 * m' + 1 < 2 ^ 31 by omega), nI_clamp (show 3 * m' + 2 < 2 ^ 31 by omega), st1]
    rw [if_neg (show ¬ nI 5 = 0 by decide), if_neg (show ¬ nI 5 = 1 by decide), if_neg (show ¬ nI 5 = 2 by decide), if_neg (show ¬ nI 5 = 3 by decide), if_neg (show ¬ nI 5 = 4 by decide), if_pos (show nI 5 = 5 from rfl)]
  · show upd (upd (upd s.2.2.2.2.2 (3 * m') (nI u)) (3 * m' + 1) (nI v)) (3 * m' + 2) (nI c) (3 * i) = _ ∧ upd (upd (upd s.2.2.2.2.2 (3 * m') (nI u)) (3 * m' + 1) (nI v)) (3 * m' + 2) (nI c) (3 * i + 1) = _ ∧ upd (upd (upd s.2.2.2.2.2 (3 * m') (nI u)) (3 * m' + 1) (nI v)) (3 * m' + 2) (nI c) (3 * i + 2) = _ ∧ _
    by_cases q : i = m'
    · subst q
      have l0 : ∀ f : Nat → Int32, upd (upd (upd f (3 * i) (nI u)) (3 * i + 1) (nI v)) (3 * i + 2) (nI c) (3 * i) = nI u := fun f => by rw [upd_ne _ _ (by omega), upd_ne _ _ (by omega), upd_same]
      have l1 : ∀ f : Nat → Int32, upd (upd (upd f (3 * i) (nI u)) (3 * i + 1) (nI v)) (3 * i + 2) (nI c) (3 * i + 1) = nI v := fun f => by rw [upd_ne _ _ (by omega), upd_same]
      have l2 : ∀ f : Nat → Int32, upd (upd (upd f (3 * i) (nI u)) (3 * i + 1) (nI v)) (3 * i + 2) (nI c) (3 * i + 2) = nI c := fun f => upd_same _ _ _
      exact ⟨(l0 _).trans (l0 _).symm, (l1 _).trans (l1 _).symm, (l2 _).trans (l2 _).symm, ⟨u, hu1, hu, l0 _⟩, ⟨v, hv, l1 _⟩, ⟨c, hc1, hc, l2 _⟩⟩
    · have ln : ∀ (f : Nat → Int32) (j : Nat), j < 3 → upd (upd (upd f (3 * m') (nI u)) (3 * m' + 1) (nI v)) (3 * m' + 2) (nI c) (3 * i + j) = f (3 * i + j) := fun f j hj => by rw [upd_ne _ _ (by omega), upd_ne _ _ (by omega), upd_ne _ _ (by omega)]
      obtain ⟨g1, g2, g3, ⟨z1, z2, z3, g4⟩, ⟨y1, y2, g5⟩, ⟨x1, x2, x3, g6⟩⟩ := hl8 i (by omega)
      exact ⟨(ln _ 0 (by decide)).trans (g1.trans (ln _ 0 (by decide)).symm), (ln _ 1 (by decide)).trans (g2.trans (ln _ 1 (by decide)).symm), (ln _ 2 (by decide)).trans (g3.trans (ln _ 2 (by decide)).symm), ⟨z1, z2, z3, (ln _ 0 (by decide)).trans g4⟩, ⟨y1, y2, (ln _ 1 (by decide)).trans g5⟩, ⟨x1, x2, x3, (ln _ 2 (by decide)).trans g6⟩⟩
theorem act_6 {w h fa la nh nt : Int32} {gr wi lp : Nat → Int32} {s : TS} (H : TR w h fa la nh nt gr wi lp s) {k : Nat} (hk : k ≤ 9) (parts : Nat → Int32) : f_X5_carryOut parts w h fa la nh nt gr wi lp (nI 7) = some (w, h, fa, 0, nh, nt, gr, wi, lp) ∧ ∃ s', (∀ rd, rd (4 * k) = nI 6 → tellS s rd (nI (4 * k)) = some s') ∧ TR w h fa 0 nh nt gr wi lp s' := by
  obtain ⟨hcan, hl1, hl2, hl3, hl4, hl5, hl6, -⟩ := H
  refine ⟨rfl, (0, s.2.1, s.2.2.1, s.2.2.2.1, s.2.2.2.2.1, s.2.2.2.2.2), fun rd r0 => ?_, hcan, hl1, rfl, hl3, hl4, hl5, hl6, 0, by decide, rfl, fun i hi => absurd hi (Nat.not_lt_zero i)⟩
  unfold tellS f_X10_tell
  simp only [(b4 k).1, (b4 k).2.1, gd_t (ib_nI (show 4 * k < 40 by omega) (show 40 < 2 ^ 31 by decide)), gd_t (ib_nI (show 4 * k + 1 < 40 by omega) (show 40 < 2 ^ 31 by decide)), gd_t (ib_nI (show 4 * k + 2 < 40 by omega) (show 40 < 2 ^ 31 by decide)), nI_clamp (show 4 * k < 2 ^ 31 by omega), r0]
  rw [if_neg (show ¬ nI 6 = 0 by decide), if_neg (show ¬ nI 6 = 1 by decide), if_neg (show ¬ nI 6 = 2 by decide), if_neg (show ¬ nI 6 = 3 by decide), if_neg (show ¬ nI 6 = 4 by decide), if_neg (show ¬ nI 6 = 5 by decide), if_pos (show nI 6 = 6 from rfl)]
theorem act_8 {w h fa la nh nt : Int32} {gr wi lp : Nat → Int32} {s : TS} (H : TR w h fa la nh nt gr wi lp s) {k : Nat} (hk : k ≤ 9) {parts : Nat → Int32} {u : Nat} (hu : u ≤ 9) (p0 : parts 0 = nI u) : f_X5_carryOut parts w h fa la nh nt gr wi lp (nI 9) = some (w, h, nI u, la, nh, nt, gr, wi, lp) ∧ ∃ s', (∀ rd, rd (4 * k) = nI 8 → rd (4 * k + 1) = nI u → tellS s rd (nI (4 * k)) = some s') ∧ TR w h (nI u) la nh nt gr wi lp s' := by
  obtain ⟨hcan, hl1, hl2, hl3, hl4, hl5, hl6, hl7⟩ := H
  have e : f_X5_carryOut parts w h fa la nh nt gr wi lp (nI 9) = some (w, h, parts 0, la, nh, nt, gr, wi, lp) := rfl
  refine ⟨by rw [e, p0], (s.1, s.2.1, s.2.2.1, nI u, s.2.2.2.2.1, s.2.2.2.2.2), fun rd r0 r1 => ?_, hcan, rfl, hl2, hl3, hl4, ⟨u, hu, rfl⟩, hl6, hl7⟩
  unfold tellS f_X10_tell
  simp only [(b4 k).1, (b4 k).2.1, gd_t (ib_nI (show 4 * k < 40 by omega) (show 40 < 2 ^ 31 by decide)), gd_t (ib_nI (show 4 * k + 1 < 40 by omega) (show 40 < 2 ^ 31 by decide)), gd_t (ib_nI (show 4 * k + 2 < 40 by omega) (show 40 < 2 ^ 31 by decide)), nI_clamp (show 4 * k < 2 ^ 31 by omega), nI_clamp (show 4 * k + 1 < 2 ^ 31 by omega), r0, r1]
  rw [if_neg (show ¬ nI 8 = 0 by decide), if_neg (show ¬ nI 8 = 1 by decide), if_neg (show ¬ nI 8 = 2 by decide), if_neg (show ¬ nI 8 = 3 by decide), if_neg (show ¬ nI 8 = 4 by decide), if_neg (show ¬ nI 8 = 5 by decide), if_neg (show ¬ nI 8 = 6 by decide), if_neg (show ¬ nI 8 = 7 by decide)]
def ngt : Nat → Nat → Int32 → Int32
  | 0, _, s => s
  | d + 1, a, s => ngt d ((a + 1) % 24) (s ||| (1 <<< (nI a &&& 31)))
theorem ngt_C (x3 : Int32) {b : Nat} (hb : b < 24) : ∀ (d a i fu : Nat) (s : Int32), a < 24 → (a + d) % 24 = b → i + d < 24 → d < fu → f_X2_setNight_L16 x3 (nI b) fu (nI a) (nI i) s = some (ngt d a s, x3) := by
  intro d
  induction d with
  | zero =>
    intro a i fu s ha h hi hfu
    obtain ⟨fu, rfl⟩ : ∃ m, fu = m + 1 := ⟨fu - 1, by omega⟩
    have : a = b := by omega
    subst this
    rw [f_X2_setNight_L16, if_neg (show ¬ (24 : Int32) ≤ nI i from nI_ge (b := 24) (by omega) (by decide)), if_pos rfl]
    rfl
  | succ d ih =>
    intro a i fu s ha h hi hfu
    obtain ⟨fu, rfl⟩ : ∃ m, fu = m + 1 := ⟨fu - 1, by omega⟩
    rw [f_X2_setNight_L16, if_neg (show ¬ (24 : Int32) ≤ nI i from nI_ge (b := 24) (by omega) (by decide)), if_neg (fun z => by have := (nI_eq (by omega) (by omega)).mp z; omega), st1, st1, show (24 : Int32) = nI 24 from rfl, nI_rem (by omega) (by decide)]
    exact ih ((a + 1) % 24) (i + 1) fu _ (by omega) (by omega) (by omega) (by omega)
theorem ngt_M (lm fd : Int32) (row rd laws : Nat → Int32) (x1 : Int32) {b : Nat} (hb : b < 24) : ∀ (d a fu : Nat) (s : Int32), a < 24 → (a + d) % 24 = b → d < 24 → d < fu → f_X10_tell_L230 lm fd row rd laws x1 (nI b) fu (nI a) s = f_X10_tell_J261 lm (ngt d a s) fd row rd laws x1 := by
  intro d
  induction d with
  | zero =>
    intro a fu s ha h hi hfu
    obtain ⟨fu, rfl⟩ : ∃ m, fu = m + 1 := ⟨fu - 1, by omega⟩
    have : a = b := by omega
    subst this
    rw [f_X10_tell_L230, if_pos rfl]
    rfl
  | succ d ih =>
    intro a fu s ha h hi hfu
    obtain ⟨fu, rfl⟩ : ∃ m, fu = m + 1 := ⟨fu - 1, by omega⟩
    rw [f_X10_tell_L230, if_neg (fun z => by have := (nI_eq (by omega) (by omega)).mp z; omega), st1, show (24 : Int32) = nI 24 from rfl, nI_rem (by omega) (by decide)]
    exact ih ((a + 1) % 24) fu _ (by omega) (by omega) (by omega) (by omega)
theorem act_7 {w h fa la nh nt : Int32} {gr wi lp : Nat → Int32} {s : TS} (H : TR w h fa la nh nt gr wi lp s) {k : Nat} (hk : k ≤ 9) {parts : Nat → Int32} {u v c : Nat} (hu : u < 24) (hv : v < 24) (hc1 : 1 ≤ c) (hc : c ≤ 9) (p0 : parts 0 = nI u) (p1 : parts 1 = nI v) (p2 : parts 2 = nI c) : ∃ nh', f_X5_carryOut parts w h fa la nh nt gr wi lp (nI 8) = some (w, h, fa, la, nh', nI c, gr, wi, lp) ∧ ∃ s', (∀ rd, rd (4 * k) = nI 7 → rd (4 * k + 1) = nI u → rd (4 * k + 2) = nI v → rd (4 * k + 3) = nI c → tellS s rd (nI (4 * k)) = some s') ∧ TR w h fa la nh' (nI c) gr wi lp s' := by
  obtain ⟨hcan, hl1, hl2, hl3, hl4, hl5, hl6, hl7⟩ := H
  have e : f_X5_carryOut parts w h fa la nh nt gr wi lp (nI 8) = (f_X2_setNight nh nt (parts 0) (parts 1) (parts 2)).bind (fun z167 => (some (w, h, fa, la, z167.1, z167.2, gr, wi, lp))) := rfl
  have hC := ngt_C (nI c) hv ((v + 24 - u) % 24) u 0 FU 0 hu (by omega) (by omega) (by have : FU = 5000 := rfl; omega)
  refine ⟨ngt ((v + 24 - u) % 24) u 0, ?_, (s.1, ngt ((v + 24 - u) % 24) u 0, nI c, s.2.2.2.1, s.2.2.2.2.1, s.2.2.2.2.2), fun rd r0 r1 r2 r3 => ?_, hcan, hl1, hl2, rfl, rfl, hl5, ⟨c, hc1, hc, rfl⟩, hl7⟩
  · rw [e, p0, p1, p2]
    have hC' : f_X2_setNight nh nt (nI u) (nI v) (nI c) = some (ngt ((v + 24 - u) % 24) u 0, nI c) := hC
    rw [hC', bN]
  · have hM := ngt_M s.1 s.2.2.2.1 s.2.2.2.2.1 rd s.2.2.2.2.2 (nI (4 * k)) hv ((v + 24 - u) % 24) u FU 0 hu (by omega) (by omega) (by have : FU = 5000 := rfl; omega)
    unfold tellS f_X10_tell
    simp only [(b4 k).1, (b4 k).2.1, gd_t (ib_nI (show 4 * k < 40 by omega) (show 40 < 2 ^ 31 by decide)), gd_t (ib_nI (show 4 * k + 1 < 40 by omega) (show 40 < 2 ^ 31 by decide)), gd_t (ib_nI (show 4 * k + 2 < 40 by omega) (show 40 < 2 ^ 31 by decide)), nI_clamp (show 4 * k < 2 ^ 31 by omega), nI_clamp (show 4 * k + 1 < 2 ^ 31 by omega), nI_clamp (show 4 * k + 2 < 2 ^ 31 by omega), r0, r1, r2, hM]
    unfold f_X10_tell_J261
    rw [if_neg (show ¬ nI 7 = 0 by decide), if_neg (show ¬ nI 7 = 1 by decide), if_neg (show ¬ nI 7 = 2 by decide), if_neg (show ¬ nI 7 = 3 by decide), if_neg (show ¬ nI 7 = 4 by decide), if_neg (show ¬ nI 7 = 5 by decide), if_neg (show ¬ nI 7 = 6 by decide), if_pos (show nI 7 = 7 from rfl), (b4 k).2.2, gd_t (ib_nI (show 4 * k + 3 < 40 by omega) (show 40 < 2 ^ 31 by decide)), nI_clamp (show 4 * k + 3 < 2 ^ 31 by omega), r3]
end M75
