section M67
theorem liv_L107 (rc : Int32 → (Nat → Int32) → (Nat → Int32) → (Nat → Int32) → (Nat → Int32) → Option ((Nat → Int32) × (Nat → Int32) × (Nat → Int32) × (Nat → Int32))) (mk la due : Nat → Int32) (k : Nat) (T : Int32) : ∀ (d j n : Nat) (tot : Nat → Int32), j + d = 36 → d < n → ∃ tot', f_X9_addUpAllCries_L107 rc mk la due (nI k) T n (nI j) tot = rc (nI (k + 1)) mk la due tot' ∧ ∀ c, tot' c = if j ≤ c ∧ c < 36 then tot c + due c * T else tot c := by
  intro d
  induction d with
  | zero =>
    intro j n tot hk hn
    obtain ⟨n, rfl⟩ : ∃ m, n = m + 1 := ⟨n - 1, by omega⟩
    have : j = 36 := by omega
    subst this
    refine ⟨tot, ?_, fun c => by rw [if_neg (by omega)]⟩
    rw [f_X9_addUpAllCries_L107, if_pos (show (36 : Int32) ≤ nI 36 by decide)]
    unfold f_X9_addUpAllCries_J141
    rw [st1]
  | succ d ih =>
    intro j n tot hk hn
    obtain ⟨n, rfl⟩ : ∃ m, n = m + 1 := ⟨n - 1, by omega⟩
    obtain ⟨tot', h1, h2⟩ := ih (j + 1) n (upd tot j (tot j + due j * T)) (by omega) (by omega)
    refine ⟨tot', ?_, fun c => ?_⟩
    · rw [← h1, f_X9_addUpAllCries_L107, if_neg (show ¬ (36 : Int32) ≤ nI j from nI_ge (b := 36) (by omega) (by decide))]
      simp only [gd_t (ib_nI (show j < 36 by omega) (show 36 < 2 ^ 31 by decide)), dueAtC due (show j < 36 by omega), bN, nI_clamp (show j < 2 ^ 31 by omega), st1]
    · rw [h2]
      by_cases q : c = j
      · subst q
        rw [if_neg (by omega), if_pos (by omega), upd_same]
      · rw [upd_ne _ _ q]
        by_cases q2 : j ≤ c ∧ c < 36
        · rw [if_pos (by omega), if_pos q2]
        · rw [if_neg (by omega), if_neg q2]
theorem liv_L110 (rc : Int32 → Int32 → (Nat → Int32) → (Nat → Int32) → (Nat → Int32) → (Nat → Int32) → (Nat → Int32) → (Nat → Int32) → Option (Int32 × Int32 × (Nat → Int32) × (Nat → Int32) × (Nat → Int32) × (Nat → Int32) × (Nat → Int32) × (Nat → Int32))) {a b : Nat} (ha : a ≤ 6) (hb : b ≤ 6) {row : Nat → Int32} (r0 : row 0 = nI a) (r1 : row 1 = nI b) {N : Nat} {lp yl : Nat → Int32} (hLw : okL N lp yl) (nh nt : Int32) {L : List (Nat × Nat × Nat × Nat × Nat)} {m : Int32} {ca ti lo tw wa : Nat → Int32} (hL : LayS L (m, ca, ti, lo, tw, wa)) (h480 : L.length ≤ 480) (hbb : ∀ e ∈ L, e.1 < 36 ∧ e.2.2.2.1 ≤ 60) {k : Nat} (hk20 : k < 20) : ∀ (d j n : Nat) (wo : Nat → Int32), j + d = a * b → d < n → ∃ wo', f_X10_living_L110 rc (nI N) nh nt m row yl ca ti lo tw wa (nI k) (nI (81 + 4 * k)) n (nI j) wo = rc (nI (k + 1)) m ca ti lo tw wa wo' ∧ ∀ c, wo' c = if j ≤ c ∧ c < a * b then wo c + fs lp N L c * tI nh nt (row (84 + 4 * k)) else wo c := by
  have h36 := mul_le36 ha hb
  intro d
  induction d with
  | zero =>
    intro j n wo hk hn
    obtain ⟨n, rfl⟩ : ∃ m, n = m + 1 := ⟨n - 1, by omega⟩
    have : j = a * b := by omega
    subst this
    refine ⟨wo, ?_, fun c => by rw [if_neg (by omega)]⟩
    rw [f_X10_living_L110, cellsM r0 r1, bN, if_pos (nI_le (Nat.le_refl _) (by omega))]
    unfold f_X10_living_J149
    rw [st1]
  | succ d ih =>
    intro j n wo hk hn
    obtain ⟨n, rfl⟩ : ∃ m, n = m + 1 := ⟨n - 1, by omega⟩
    have c3 : nI (81 + 4 * k) + 3 = nI (84 + 4 * k) := by
      rw [show (3 : Int32) = nI 3 from rfl, nI_add]; congr 1; omega
    obtain ⟨wo', h1, h2⟩ := ih (j + 1) n (upd wo j (wo j + fs lp N L j * tI nh nt (row (84 + 4 * k)))) (by omega) (by omega)
    refine ⟨wo', ?_, fun c => ?_⟩
    · rw [← h1, f_X10_living_L110, cellsM r0 r1, bN, if_neg (nI_ge (show j < a * b by omega) (by omega))]
      simp only [c3, gd_t (ib_nI (show j < 36 by omega) (show 36 < 2 ^ 31 by decide)), gd_t (ib_nI (show 84 + 4 * k < 558 by omega) (show 558 < 2 ^ 31 by decide)), nI_clamp (show 84 + 4 * k < 2 ^ 31 by omega), finesAtM hL h480 hbb hLw nh nt (row (84 + 4 * k)) (show j < 36 by omega), bN, nI_clamp (show j < 2 ^ 31 by omega), st1]
    · rw [h2]
      by_cases q : c = j
      · subst q
        rw [if_neg (by omega), if_pos (by omega), upd_same]
      · rw [upd_ne _ _ q]
        by_cases q2 : j ≤ c ∧ c < a * b
        · rw [if_pos (by omega), if_pos q2]
        · rw [if_neg (by omega), if_neg q2]
theorem cryOf {f : Nat → Int32} {k : Nat} (h : k < 20) : f_X1_loudOf f (nI k) = some (f k) ∧ f_X1_hourOf f (nI k) = some (f k) ∧ ((f k = 0 ∨ f k = 1) → f_X1_isHigh f (nI k) = some (f k)) := by
  refine ⟨?_, ?_, fun h01 => ?_⟩
  · unfold f_X1_loudOf
    rw [isCry_nI h, bN, i10, gd_t (ib_nI h (by decide)), nI_clamp (by omega)]
  · unfold f_X1_hourOf
    rw [isCry_nI h, bN, i10, gd_t (ib_nI h (by decide)), nI_clamp (by omega)]
  · unfold f_X1_isHigh
    rw [isCry_nI h, bN, i10, gd_t (ib_nI h (by decide)), nI_clamp (by omega)]
    rcases h01 with e | e
    · rw [if_pos e, e]
    · rw [if_neg (by rw [e]; decide), e]
theorem liv_1 {a b f N : Nat} {gr wi lp row yl : Nat → Int32} (S : okSc a b f N gr wi lp row yl) {nh nt : Int32} (hnt : ∃ c : Nat, 1 ≤ c ∧ c ≤ 9 ∧ nt = nI c) (x1 : Int32) {M : Nat} (hM : M ≤ 20) {ci lou hig hou : Nat → Int32} (h80 : row 80 = nI M) (hcr : ∀ i, i < M → RCry i ci lou hig hou row 0) : ∀ (d k n1 n2 : Nat) (marks lasting due tot : Nat → Int32) (m : Int32) (ca ti lo tw wa wo : Nat → Int32), k + d = M → d < n1 → d < n2 → (∀ c, c < a * b → tot c = wo c ∧ ∃ v : Nat, v ≤ 427680 * k ∧ wo c = nI v) → ∃ mk la du tot' m' ca' ti' lo' tw' wa' wo', f_X9_addUpAllCries_L10 (nI a) (nI b) (nI f) (nI N) nh nt gr wi lp (nI M) ci lou hig hou n1 (nI k) marks lasting due tot = some (mk, la, du, tot') ∧ f_X10_living_L36 (nI N) nh nt (nI f) row yl x1 n2 (nI k) m ca ti lo tw wa wo = f_X10_living_J155 m' row ca' ti' lo' tw' wa' wo' x1 ∧ ∀ c, c < a * b → tot' c = wo' c ∧ ∃ v : Nat, v ≤ 427680 * M ∧ wo' c = nI v := by
  have S' := S
  obtain ⟨ha1, ha, hb1, hb, hf, hG, hR, hwin, hLw⟩ := S'
  have h36 := mul_le36 ha hb
  have e80 : Int32.toNatClampNeg 80 = 80 := rfl
  intro d
  induction d with
  | zero =>
    intro k n1 n2 marks lasting due tot m ca ti lo tw wa wo hk hn1 hn2 hrel
    obtain ⟨n1, rfl⟩ : ∃ m, n1 = m + 1 := ⟨n1 - 1, by omega⟩
    obtain ⟨n2, rfl⟩ : ∃ m, n2 = m + 1 := ⟨n2 - 1, by omega⟩
    have : k = M := by omega
    subst this
    refine ⟨marks, lasting, due, tot, m, ca, ti, lo, tw, wa, wo, ?_, ?_, hrel⟩
    · rw [f_X9_addUpAllCries_L10, if_pos (nI_le (Nat.le_refl _) (by omega))]
    · rw [f_X10_living_L36]
      simp only [gd_t ib80, e80, h80, if_pos (nI_le (Nat.le_refl k) (show k < 2 ^ 31 by omega))]
  | succ d ih =>
    intro k n1 n2 marks lasting due tot m ca ti lo tw wa wo hk hn1 hn2 hrel
    obtain ⟨n1, rfl⟩ : ∃ m, n1 = m + 1 := ⟨n1 - 1, by omega⟩
    obtain ⟨n2, rfl⟩ : ∃ m, n2 = m + 1 := ⟨n2 - 1, by omega⟩
    have hkM : k < M := by omega
    obtain ⟨g1, g2, g3, g4, ⟨p, hp, ep⟩, ⟨l, hl1, hl, el⟩, hh01, ⟨hr, hhr, er⟩⟩ := hcr k hkM
    simp only [Nat.zero_add] at g1 g2 g3 g4
    have i81 : 81 + 4 * nI k = nI (81 + 4 * k) := by rw [show (4 : Int32) = nI 4 from rfl, nI_mul]; exact nI_add 81 (4 * k)
    have i82 : nI (81 + 4 * k) + 1 = nI (82 + 4 * k) := by rw [st1]; congr 1; omega
    have i83 : nI (81 + 4 * k) + 2 = nI (83 + 4 * k) := by rw [show (2 : Int32) = nI 2 from rfl, nI_add]; congr 1; omega
    rw [f_X9_addUpAllCries_L10, if_neg (nI_ge hkM (by omega)), f_X10_living_L36]
    simp only [gd_t ib80, e80, h80, if_neg (nI_ge hkM (show M < 2 ^ 31 by omega)), crierOf_nI ci (show k < 20 by omega), bN, ep, windowOf_nI wi hp, i81, i82, i83, gd_t (ib_nI (show 81 + 4 * k < 558 by omega) (show 558 < 2 ^ 31 by decide)), gd_t (ib_nI (show 82 + 4 * k < 558 by omega) (show 558 < 2 ^ 31 by decide)), gd_t (ib_nI (show 83 + 4 * k < 558 by omega) (show 558 < 2 ^ 31 by decide)), nI_clamp (show 81 + 4 * k < 2 ^ 31 by omega), nI_clamp (show 82 + 4 * k < 2 ^ 31 by omega), nI_clamp (show 83 + 4 * k < 2 ^ 31 by omega), g1, g2, g3, show (38 : Int32) + nI p = nI (38 + p) from nI_add 38 p, gd_t (ib_nI (show 38 + p < 558 by omega) (show 558 < 2 ^ 31 by decide)), nI_clamp (show 38 + p < 2 ^ 31 by omega), (hwin p hp).1, (cryOf (f := lou) (show k < 20 by omega)).1, (cryOf (f := hou) (show k < 20 by omega)).2.1, (cryOf (f := hig) (show k < 20 by omega)).2.2 hh01]
    by_cases z : wi p = -1
    · simp only [if_pos z]
      unfold f_X9_addUpAllCries_J141 f_X10_living_J149
      rw [st1]
      exact ih (k + 1) n1 n2 marks lasting due tot m ca ti lo tw wa wo (by omega) (by omega) (by omega) (fun c hc => by
        obtain ⟨q1, v, q2, q3⟩ := hrel c hc
        exact ⟨q1, v, by omega, q3⟩)
    · obtain ⟨cc, hcc, ec, -⟩ := (hwin p hp).2.resolve_left z
      obtain ⟨mk, la, s1, hv⟩ := spreadC hG ha1 ha hb hf (hig k) hcc hl marks lasting
      obtain ⟨du, s2, hd⟩ := drawUpC ha hb (okWy ha hb gr f (hig k) hcc hl) hv hLw.1 lp due
      obtain ⟨⟨m', ca', ti', lo', tw', wa'⟩, s3, hLay⟩ := laySoundsM hG hR ha1 ha hb1 hb hf (hig k) hcc hl1 hl m ca ti lo tw wa
      have hW := okWy ha hb gr f (hig k) hcc hl
      obtain ⟨tot', t1, t2⟩ := liv_L107 (f_X9_addUpAllCries_L10 (nI a) (nI b) (nI f) (nI N) nh nt gr wi lp (nI M) ci lou hig hou n1) mk la du k (tI nh nt (hou k)) 36 0 FU tot (by decide) (by decide)
      obtain ⟨wo', t3, t4⟩ := liv_L110 (f_X10_living_L36 (nI N) nh nt (nI f) row yl x1 n2) ha hb hR.1 hR.2.1 hLw nh nt hLay (lsU480 hW) (lsU_b2 ha hb hW) (show k < 20 by omega) (a * b) 0 FU wo (Nat.zero_add _) (by have : FU = 5000 := rfl; omega)
      have t1' : f_X9_addUpAllCries_L107 (f_X9_addUpAllCries_L10 (nI a) (nI b) (nI f) (nI N) nh nt gr wi lp (nI M) ci lou hig hou n1) mk la du (nI k) (tI nh nt (hou k)) FU 0 tot = _ := t1
      have t3' : f_X10_living_L110 (f_X10_living_L36 (nI N) nh nt (nI f) row yl x1 n2) (nI N) nh nt m' row yl ca' ti' lo' tw' wa' (nI k) (nI (81 + 4 * k)) FU 0 wo = _ := t3
      have hJ : (if hig k = 1 then f_X10_living_J104 (f_X10_living_L36 (nI N) nh nt (nI f) row yl x1 n2) (nI N) nh nt (nI f) m row yl ca ti lo tw wa wo (nI k) (nI (81 + 4 * k)) 1 (nI l) (nI cc) else f_X10_living_J104 (f_X10_living_L36 (nI N) nh nt (nI f) row yl x1 n2) (nI N) nh nt (nI f) m row yl ca ti lo tw wa wo (nI k) (nI (81 + 4 * k)) 0 (nI l) (nI cc)) = f_X10_living_L36 (nI N) nh nt (nI f) row yl x1 n2 (nI (k + 1)) m' ca' ti' lo' tw' wa' wo' := by
        have e1 : f_X10_living_J104 (f_X10_living_L36 (nI N) nh nt (nI f) row yl x1 n2) (nI N) nh nt (nI f) m row yl ca ti lo tw wa wo (nI k) (nI (81 + 4 * k)) (hig k) (nI l) (nI cc) = f_X10_living_L36 (nI N) nh nt (nI f) row yl x1 n2 (nI (k + 1)) m' ca' ti' lo' tw' wa' wo' := by
          unfold f_X10_living_J104
          rw [s3, bN]
          exact t3'
        rw [← e1]
        rcases hh01 with y | y
        · rw [if_neg (by rw [y]; decide), y]
        · rw [if_pos y, y]
      simp only [if_neg z, el]
      simp only [ec, s1, s2, bN, timesInC, t1', hJ]
      refine ih (k + 1) n1 n2 mk la du tot' m' ca' ti' lo' tw' wa' wo' (by omega) (by omega) (by omega) (fun c hc => ?_)
      obtain ⟨q1, v, q2, q3⟩ := hrel c hc
      obtain ⟨v2, -, q4, q5⟩ := ft_nI S (nh := nh) hnt (hig k) (hou k) hcc hl c
      rw [t2 c, t4 c, if_pos (by omega), if_pos (by omega), hd c (by omega), q1, g4]
      refine ⟨rfl, v + v2, by omega, ?_⟩
      rw [q3, q5, nI_add]
theorem liv_L15 (lm nh nt fa m : Int32) (row yl ca ti lo tw wa : Nat → Int32) (x1 : Int32) : ∀ (d j n : Nat) (wo : Nat → Int32), j + d = 36 → d < n → ∃ wo', f_X10_living_L15 lm nh nt fa m row yl ca ti lo tw wa x1 n (nI j) wo = f_X10_living_J34 lm nh nt fa m row yl ca ti lo tw wa wo' x1 ∧ ∀ c, wo' c = if j ≤ c ∧ c < 36 then 0 else wo c := by
  intro d
  induction d with
  | zero =>
    intro j n wo hk hn
    obtain ⟨n, rfl⟩ : ∃ m, n = m + 1 := ⟨n - 1, by omega⟩
    have : j = 36 := by omega
    subst this
    exact ⟨wo, by rw [f_X10_living_L15, if_pos (show (36 : Int32) ≤ nI 36 by decide)], fun c => by rw [if_neg (by omega)]⟩
  | succ d ih =>
    intro j n wo hk hn
    obtain ⟨n, rfl⟩ : ∃ m, n = m + 1 := ⟨n - 1, by omega⟩
    obtain ⟨wo', h1, h2⟩ := ih (j + 1) n (upd wo j 0) (by omega) (by omega)
    refine ⟨wo', ?_, fun c => ?_⟩
    · rw [← h1, f_X10_living_L15, if_neg (show ¬ (36 : Int32) ≤ nI j from nI_ge (b := 36) (by omega) (by decide)), gd_t (ib_nI (show j < 36 by omega) (by decide)), st1, nI_clamp (by omega)]
    · rw [h2]
      by_cases q : c = j
      · subst q
        rw [if_neg (by omega), if_pos (by omega), upd_same]
      · rw [upd_ne _ _ q]
        by_cases q2 : j ≤ c ∧ c < 36
        · rw [if_pos (by omega), if_pos q2]
        · rw [if_neg (by omega), if_neg q2]
theorem liv_2 {a b : Nat} (ha : a ≤ 6) (hb : b ≤ 6) {gr row : Nat → Int32} (hR : okR a b gr row) {tot wo : Nat → Int32} (hrel : ∀ c, c < a * b → tot c = wo c ∧ ∃ v : Nat, v ≤ 8553600 ∧ wo c = nI v) (mk la du : Nat → Int32) (m : Int32) (ca ti lo tw wa : Nat → Int32) (x1 : Int32) : ∀ (d k n1 n2 : Nat) (best most : Int32), k + d = a * b → d < n1 → d < n2 → ((best = -1 ∧ most = -1) ∨ ∃ j, j < a * b ∧ best = nI j ∧ most = tot j) → ∃ r, f_X9_living_L23 (nI a) (nI b) gr mk la du tot x1 n1 best most (nI k) = some (r, mk, la, du, tot) ∧ f_X10_living_L159 m row ca ti lo tw wa wo x1 n2 best (nI k) = some (r, m, ca, ti, lo, tw, wa, wo) := by
  have h36 := mul_le36 ha hb
  intro d
  induction d with
  | zero =>
    intro k n1 n2 best most hk hn1 hn2 hst
    obtain ⟨n1, rfl⟩ : ∃ m, n1 = m + 1 := ⟨n1 - 1, by omega⟩
    obtain ⟨n2, rfl⟩ : ∃ m, n2 = m + 1 := ⟨n2 - 1, by omega⟩
    have : k = a * b := by omega
    subst this
    rw [f_X9_living_L23, cellsC, bN, if_pos (nI_le (Nat.le_refl _) (by omega)), f_X10_living_L159, cellsM hR.1 hR.2.1, bN, if_pos (nI_le (Nat.le_refl _) (by omega))]
    unfold f_X9_living_J78 f_X10_living_J207
    rcases hst with ⟨h1, h2⟩ | ⟨j, hj, h1, h2⟩
    · rw [h1, h2, if_pos rfl]
      by_cases q : x1 = 0
      · rw [if_pos q]; exact ⟨_, rfl, rfl⟩
      · rw [if_neg q]; exact ⟨_, rfl, rfl⟩
    · rw [h1, h2, if_neg (nI_ne1 (by omega)), gd_t (ib_nI (show j < 36 by omega) (by decide)), nI_clamp (by omega), (hrel j hj).1]
      by_cases q : x1 = 0
      · rw [if_pos q, if_pos q]; exact ⟨_, rfl, rfl⟩
      · rw [if_neg q, if_neg q]; exact ⟨_, rfl, rfl⟩
  | succ d ih =>
    intro k n1 n2 best most hk hn1 hn2 hst
    obtain ⟨n1, rfl⟩ : ∃ m, n1 = m + 1 := ⟨n1 - 1, by omega⟩
    obtain ⟨n2, rfl⟩ : ∃ m, n2 = m + 1 := ⟨n2 - 1, by omega⟩
    have hkc : k < a * b := by omega
    obtain ⟨tk, v, hv, ev⟩ := hrel k hkc
    rw [f_X9_living_L23, cellsC, bN, if_neg (nI_ge hkc (by omega)), isFloorC gr rfl rfl ha hb hkc, bN, f_X10_living_L159, cellsM hR.1 hR.2.1, bN, if_neg (nI_ge hkc (by omega)), isFloorM row (show k < 36 by omega), bN, hR.2.2 k (by omega)]
    unfold f_X9_living_J72 f_X10_living_J199 f_X10_living_J195 f_X10_living_J200
    simp only [st1, gd_t (ib_nI (show k < 36 by omega) (show 36 < 2 ^ 31 by decide)), nI_clamp (show k < 2 ^ 31 by omega)]
    by_cases hg : gr k = -1
    · simp only [if_pos hg, i10]
      rcases hst with ⟨h1, h2⟩ | ⟨j, hj, h1, h2⟩
      · have hlt : (-1 : Int32) < tot k := by
          rw [tk, ev, Int32.lt_iff_toInt_lt, nI_toInt (by omega)]
          have : (-1 : Int32).toInt = -1 := by decide
          omega
        rw [h1, h2, if_pos hlt, if_pos rfl]
        exact ih (k + 1) n1 n2 (nI k) (tot k) (by omega) (by omega) (by omega) (Or.inr ⟨k, hkc, rfl, rfl⟩)
      · rw [h1, h2]
        simp only [if_neg (nI_ne1 (show j < 2 ^ 31 by omega)), gd_t (ib_nI (show j < 36 by omega) (show 36 < 2 ^ 31 by decide)), nI_clamp (show j < 2 ^ 31 by omega), ← tk, ← (hrel j hj).1]
        by_cases q : tot j < tot k
        · rw [if_pos q, if_neg (Int32.not_le.mpr q)]
          exact ih (k + 1) n1 n2 (nI k) (tot k) (by omega) (by omega) (by omega) (Or.inr ⟨k, hkc, rfl, rfl⟩)
        · rw [if_neg q, if_pos (Int32.not_lt.mp q)]
          exact ih (k + 1) n1 n2 (nI j) (tot j) (by omega) (by omega) (by omega) (Or.inr ⟨j, hj, rfl, rfl⟩)
    · simp only [if_neg hg, i00]
      exact ih (k + 1) n1 n2 best most (by omega) (by omega) (by omega) hst
set_option maxRecDepth 20000 in
theorem ob_living : Ob_living RR := by
  intro X XA XL Y YA x1 h
  obtain ⟨a, b, f, N, S, e5, e6, e7, y5, e8, y2, y3, y4, hnt⟩ := RR_sc2 h
  have h36 := mul_le36 S.2.1 S.2.2.2.1
  have h0 := h
  obtain ⟨ht, hcan, hlaw, ⟨b1, ⟨M, hM, c1, c2, c3⟩, hnotes⟩, hi1, hi2⟩ := h0
  simp only [Nat.zero_add] at c2
  unfold f_X9_living f_X10_living
  rw [e5, e6, e7, e8, y5, y2, y3, y4, c1, in_01]
  by_cases w0 : x1 < 0
  · simp only [if_pos w0, if_neg (fun q : 0 ≤ x1 ∧ x1 ≤ 1 => absurd q.1 (Int32.not_le.mpr w0)), bN, i00]
    exact ⟨_, _, rfl, rfl, rfl, h⟩
  · by_cases w1 : x1 ≤ 1
    · obtain ⟨to0, k1, k2⟩ := fillC 0 (show 36 < 4000 by decide) (XA 42)
      obtain ⟨wo0, k3, k4⟩ := liv_L15 (nI N) (X 9) (X 10) (nI f) (Y 12) (YA 0) (YA 4) (YA 6) (YA 7) (YA 8) (YA 9) (YA 10) x1 36 0 FU (YA 13) (by decide) (by decide)
      obtain ⟨mk, la, du, tot', m', ca', ti', lo', tw', wa', wo', s1, s2, hrel⟩ := liv_1 S (nh := X 9) hnt x1 hM c2 c3 M 0 FU FU (XA 35) (XA 36) (XA 39) to0 (Y 12) (YA 6) (YA 7) (YA 8) (YA 9) (YA 10) wo0 (Nat.zero_add _) (by have : FU = 5000 := rfl; omega) (by have : FU = 5000 := rfl; omega) (fun c hc => by
        rw [k2, k4, if_pos (by omega), if_pos (by omega)]
        exact ⟨rfl, 0, by omega, rfl⟩)
      obtain ⟨r, s3, s4⟩ := liv_2 S.2.1 S.2.2.2.1 S.2.2.2.2.2.2.1 (fun c hc => by
        obtain ⟨q1, v, q2, q3⟩ := hrel c hc
        exact ⟨q1, v, by omega, q3⟩) mk la du m' ca' ti' lo' tw' wa' x1 (a * b) 0 FU FU (-1) (-1) (Nat.zero_add _) (by have : FU = 5000 := rfl; omega) (by have : FU = 5000 := rfl; omega) (Or.inl ⟨rfl, rfl⟩)
      have A1 : f_X9_addUpAllCries (nI a) (nI b) (nI f) (nI N) (X 9) (X 10) (XA 2) (XA 3) (XA 4) (nI M) (XA 9) (XA 10) (XA 11) (XA 12) (XA 35) (XA 36) (XA 39) (XA 42) = some (mk, la, du, tot') := by
        unfold f_X9_addUpAllCries
        rw [k1, bN]
        exact s1
      have A2 : f_X10_living_L15 (nI N) (X 9) (X 10) (nI f) (Y 12) (YA 0) (YA 4) (YA 6) (YA 7) (YA 8) (YA 9) (YA 10) x1 FU 0 (YA 13) = some (r, m', ca', ti', lo', tw', wa', wo') := by
        have k3' : f_X10_living_L15 (nI N) (X 9) (X 10) (nI f) (Y 12) (YA 0) (YA 4) (YA 6) (YA 7) (YA 8) (YA 9) (YA 10) x1 FU 0 (YA 13) = _ := k3
        rw [k3']
        unfold f_X10_living_J34
        have s2' : f_X10_living_L36 (nI N) (X 9) (X 10) (nI f) (YA 0) (YA 4) x1 FU 0 (Y 12) (YA 6) (YA 7) (YA 8) (YA 9) (YA 10) wo0 = _ := s2
        rw [s2']
        exact s4
      have A3 : f_X9_living_L23 (nI a) (nI b) (XA 2) mk la du tot' x1 FU (-1) (-1) 0 = some (r, mk, la, du, tot') := s3
      simp only [if_neg w0, if_pos w1, if_pos (show 0 ≤ x1 ∧ x1 ≤ 1 from ⟨Int32.not_lt.mp w0, w1⟩), bN, i10, A1, A2, A3]
      exact ⟨_, _, rfl, rfl, rfl, h⟩
    · simp only [if_neg w0, if_neg w1, if_neg (fun q : 0 ≤ x1 ∧ x1 ≤ 1 => w1 q.2), bN, i00]
      exact ⟨_, _, rfl, rfl, rfl, h⟩
end M67
