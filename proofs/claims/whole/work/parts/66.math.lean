section M66
theorem fineToC {a b f N : Nat} {gr wi lp row yl : Nat → Int32} (S : okSc a b f N gr wi lp row yl) (nh nt hi hour : Int32) {cc ch l h r : Nat} (hh : h < 6) (hr : r < 6) (hcc : cc < a * b) (hch : ch < 36) (er : wi r = nI cc) (eh : wi h = nI ch) (hl : l ≤ 99) (marks lasting due : Nat → Int32) : ∃ mk la du, f_X9_fineTo (nI a) (nI b) (nI f) (nI N) nh nt gr wi lp marks lasting due (nI h) (nI r) (nI l) hi hour = some (fs lp N (lsU (Wy a b gr f hi cc l) 8) ch * tI nh nt hour, mk, la, du) := by
  obtain ⟨ha1, ha, hb1, hb, hf, hG, hR, hwin, hLw⟩ := S
  obtain ⟨mk, la, s1, hv⟩ := spreadC hG ha1 ha hb hf hi hcc hl marks lasting
  obtain ⟨du, s2, hd⟩ := drawUpC ha hb (okWy ha hb gr f hi hcc hl) hv hLw.1 lp due
  refine ⟨mk, la, du, ?_⟩
  unfold f_X9_fineTo
  rw [windowOf_nI wi hr, bN, er, s1, bN, s2, bN, windowOf_nI wi hh, bN, eh, dueAtC du hch, bN, timesInC, bN, hd ch hch]
theorem fineToM {a b f N : Nat} {gr wi lp row yl : Nat → Int32} (S : okSc a b f N gr wi lp row yl) (nh nt hi hour : Int32) {cc ch l : Nat} (hcc : cc < a * b) (hch : ch < 36) (hl1 : 1 ≤ l) (hl : l ≤ 99) (m0 : Int32) (ca0 ti0 lo0 tw0 wa0 : Nat → Int32) : ∃ m ca ti lo tw wa, f_X10_fineTo (nI N) nh nt (nI f) m0 row yl ca0 ti0 lo0 tw0 wa0 (nI cc) (nI ch) (nI l) hi hour = some (fs lp N (lsU (Wy a b gr f hi cc l) 8) ch * tI nh nt hour, m, ca, ti, lo, tw, wa) := by
  obtain ⟨ha1, ha, hb1, hb, hf, hG, hR, hwin, hLw⟩ := S
  obtain ⟨⟨m, ca, ti, lo, tw, wa⟩, s2, hLay⟩ := laySoundsM hG hR ha1 ha hb1 hb hf hi hcc hl1 hl m0 ca0 ti0 lo0 tw0 wa0
  have hW := okWy ha hb gr f hi hcc hl
  refine ⟨m, ca, ti, lo, tw, wa, ?_⟩
  unfold f_X10_fineTo
  rw [s2, bN, finesAtM hLay (lsU480 hW) (lsU_b2 ha hb hW) hLw nh nt hour hch, bN]
theorem ft_nI {a b f N : Nat} {gr wi lp row yl : Nat → Int32} (S : okSc a b f N gr wi lp row yl) {nh nt : Int32} (hnt : ∃ c : Nat, 1 ≤ c ∧ c ≤ 9 ∧ nt = nI c) (hi hour : Int32) {cc l : Nat} (hcc : cc < a * b) (hl : l ≤ 99) (ch : Nat) : ∃ m : Nat, m < 2 ^ 31 ∧ m ≤ 427680 ∧ fs lp N (lsU (Wy a b gr f hi cc l) 8) ch * tI nh nt hour = nI m := by
  obtain ⟨ha1, ha, hb1, hb, hf, hG, hR, hwin, hLw⟩ := S
  obtain ⟨m, h1, h2⟩ := fs_nI hLw ch (lsU480 (okWy ha hb gr f hi hcc hl))
  obtain ⟨t, h3, h4, h5⟩ := tI_nI (nh := nh) hnt hour
  have : m * t ≤ 47520 * 9 := Nat.mul_le_mul h1 h4
  exact ⟨m * t, by omega, by omega, by rw [h2, h5, nI_mul]⟩
theorem ans_L {A B : Nat → Int32} (hAB : ∀ i, 1 ≤ i → i ≤ 40 → A i = B i) (v : Int32) (hv : ¬ v ≤ 0) (rc : Int32 → Int32 → (Nat → Int32) → (Nat → Int32) → (Nat → Int32) → (Nat → Int32) → (Nat → Int32) → Option (Int32 × Int32 × (Nat → Int32) × (Nat → Int32) × (Nat → Int32) × (Nat → Int32) × (Nat → Int32) × (Nat → Int32))) (m : Int32) (ca ti lo tw wa : Nat → Int32) (x5 x8 : Int32) : ∀ (d k n1 n2 : Nat), k + d = 41 → 1 ≤ k → d < n1 → d < n2 → ∃ r : Int32, f_X9_loudThatAnswers_L2 A v n1 (nI k) = some r ∧ f_X10_cancel_L147 rc m ca ti lo tw wa B x5 x8 v n2 (nI k) = (if r = -1 then f_X10_cancel_J201 rc m ca ti lo tw wa x8 else f_X10_cancel_J171 m ca ti lo tw wa B x5 x8 v r) := by
  intro d
  induction d with
  | zero =>
    intro k n1 n2 hk h1 hn1 hn2
    obtain ⟨n1, rfl⟩ : ∃ m, n1 = m + 1 := ⟨n1 - 1, by omega⟩
    obtain ⟨n2, rfl⟩ : ∃ m, n2 = m + 1 := ⟨n2 - 1, by omega⟩
    have : k = 41 := by omega
    subst this
    refine ⟨-1, by rw [f_X9_loudThatAnswers_L2, if_pos (show (40 : Int32) < nI 41 by decide)], ?_⟩
    rw [f_X10_cancel_L147, if_pos (show (41 : Int32) ≤ nI 41 by decide), if_pos rfl]
  | succ d ih =>
    intro k n1 n2 hk h1 hn1 hn2
    obtain ⟨n1, rfl⟩ : ∃ m, n1 = m + 1 := ⟨n1 - 1, by omega⟩
    obtain ⟨n2, rfl⟩ : ∃ m, n2 = m + 1 := ⟨n2 - 1, by omega⟩
    rw [f_X9_loudThatAnswers_L2, if_neg (show ¬ (40 : Int32) < nI k from fun q => absurd ((nI_ltI (a := 40) (by decide) (by omega)).mp q) (by omega)), gd_t (ib_nI (show k < 41 by omega) (by decide)), nI_clamp (by omega), f_X10_cancel_L147, if_neg (show ¬ (41 : Int32) ≤ nI k from nI_ge (b := 41) (by omega) (by decide)), if_neg hv, gd_t (ib_nI (show k < 41 by omega) (by decide)), nI_clamp (by omega), hAB k h1 (by omega), st1]
    by_cases q : B k = v
    · rw [if_pos q, if_pos q]
      exact ⟨nI k, rfl, by rw [if_neg (nI_ne1 (by omega))]⟩
    · rw [if_neg q, if_neg q]
      exact ih (k + 1) n1 n2 (by omega) (by omega) (by omega) (by omega)
theorem cancel_2 {a b f N : Nat} {gr wi lp row yl : Nat → Int32} (S : okSc a b f N gr wi lp row yl) {nh nt : Int32} (hnt : ∃ c : Nat, 1 ≤ c ∧ c ≤ 9 ∧ nt = nI c) (hi hour x5 : Int32) {p q cp cq : Nat} (hp : p < 6) (hq : q < 6) (hcp : cp < a * b) (hcq : cq < a * b) (ep : wi p = nI cp) (eq : wi q = nI cq) {A B : Nat → Int32} (hAB : ∀ i, 1 ≤ i → i ≤ 40 → A i = B i) : ∀ (d k n1 n2 : Nat) (marks lasting due : Nat → Int32) (m : Int32) (ca ti lo tw wa : Nat → Int32), k + d = 41 → 1 ≤ k → d < n1 → d < n2 → ∃ r mk la du m' ca' ti' lo' tw' wa', f_X9_cancel_L108 (nI a) (nI b) (nI f) (nI N) nh nt gr wi lp A (nI p) (nI q) hi hour x5 n1 (nI k) marks lasting due = some (r, mk, la, du, A) ∧ f_X10_cancel_L122 (nI N) nh nt (nI f) row yl B hi hour x5 (nI cp) (nI cq) n2 (nI k) m ca ti lo tw wa = some (r, m', ca', ti', lo', tw', wa', B) := by
  have h36 := mul_le36 S.2.1 S.2.2.2.1
  intro d
  induction d with
  | zero =>
    intro k n1 n2 marks lasting due m ca ti lo tw wa hk h1 hn1 hn2
    obtain ⟨n1, rfl⟩ : ∃ m, n1 = m + 1 := ⟨n1 - 1, by omega⟩
    obtain ⟨n2, rfl⟩ : ∃ m, n2 = m + 1 := ⟨n2 - 1, by omega⟩
    have : k = 41 := by omega
    subst this
    refine ⟨-1, marks, lasting, due, m, ca, ti, lo, tw, wa, ?_, ?_⟩
    · rw [f_X9_cancel_L108, if_pos (show (40 : Int32) < nI 41 by decide)]
    · rw [f_X10_cancel_L122, if_pos (show (41 : Int32) ≤ nI 41 by decide)]
  | succ d ih =>
    intro k n1 n2 marks lasting due m ca ti lo tw wa hk h1 hn1 hn2
    obtain ⟨n1, rfl⟩ : ∃ m, n1 = m + 1 := ⟨n1 - 1, by omega⟩
    obtain ⟨n2, rfl⟩ : ∃ m, n2 = m + 1 := ⟨n2 - 1, by omega⟩
    obtain ⟨mk, la, du, s1⟩ := fineToC S nh nt hi hour (h := q) (r := p) (cc := cp) (ch := cq) (l := k) hq hp hcp (by omega) ep eq (by omega) marks lasting due
    obtain ⟨m', ca', ti', lo', tw', wa', s2⟩ := fineToM S nh nt hi hour (cc := cp) (ch := cq) (l := k) hcp (by omega) h1 (by omega) m ca ti lo tw wa
    obtain ⟨v, hv, -, ev⟩ := ft_nI S (nh := nh) hnt hi hour (l := k) hcp (by omega) cq
    rw [f_X9_cancel_L108, if_neg (show ¬ (40 : Int32) < nI k from fun q => absurd ((nI_ltI (a := 40) (by decide) (by omega)).mp q) (by omega)), s1, bN, f_X10_cancel_L122, if_neg (show ¬ (41 : Int32) ≤ nI k from nI_ge (b := 41) (by omega) (by decide)), s2, bN, ev]
    show ∃ r mk_1 la_1 du_1 m'_1 ca'_1 ti'_1 lo'_1 tw'_1 wa'_1, (if nI v = 0 then f_X9_cancel_J143 (f_X9_cancel_L108 (nI a) (nI b) (nI f) (nI N) nh nt gr wi lp A (nI p) (nI q) hi hour x5 n1) mk la du A x5 (nI k) (nI v) (-1) else (f_X9_loudThatAnswers A (nI v)).bind (fun z140 => f_X9_cancel_J143 (f_X9_cancel_L108 (nI a) (nI b) (nI f) (nI N) nh nt gr wi lp A (nI p) (nI q) hi hour x5 n1) mk la du A x5 (nI k) (nI v) z140)) = some (r, mk_1, la_1, du_1, A) ∧ f_X10_cancel_L147 (f_X10_cancel_L122 (nI N) nh nt (nI f) row yl B hi hour x5 (nI cp) (nI cq) n2) m' ca' ti' lo' tw' wa' B x5 (nI k) (nI v) FU 1 = some (r, m'_1, ca'_1, ti'_1, lo'_1, tw'_1, wa'_1, B)
    by_cases hv0 : v = 0
    · have hx : f_X10_cancel_L147 (f_X10_cancel_L122 (nI N) nh nt (nI f) row yl B hi hour x5 (nI cp) (nI cq) n2) m' ca' ti' lo' tw' wa' B x5 (nI k) (nI v) (4999 + 1) 1 = f_X10_cancel_L122 (nI N) nh nt (nI f) row yl B hi hour x5 (nI cp) (nI cq) n2 (nI (k + 1)) m' ca' ti' lo' tw' wa' := by
        rw [f_X10_cancel_L147, if_neg (show ¬ (41 : Int32) ≤ 1 by decide), hv0, if_pos (show nI 0 ≤ 0 by decide)]
        unfold f_X10_cancel_J201
        rw [st1]
      have hx' : f_X10_cancel_L147 (f_X10_cancel_L122 (nI N) nh nt (nI f) row yl B hi hour x5 (nI cp) (nI cq) n2) m' ca' ti' lo' tw' wa' B x5 (nI k) (nI v) FU 1 = _ := hx
      rw [hx', if_pos (by rw [hv0]; rfl)]
      unfold f_X9_cancel_J143
      rw [if_pos rfl, st1]
      exact ih (k + 1) n1 n2 mk la du m' ca' ti' lo' tw' wa' (by omega) (by omega) (by omega) (by omega)
    · obtain ⟨r, t1, t2⟩ := ans_L hAB (nI v) (nI_nle (by omega) hv) (f_X10_cancel_L122 (nI N) nh nt (nI f) row yl B hi hour x5 (nI cp) (nI cq) n2) m' ca' ti' lo' tw' wa' x5 (nI k) 40 1 FU FU (by decide) (by decide) (by decide) (by decide)
      have t1' : f_X9_loudThatAnswers A (nI v) = some r := t1
      have t2' : f_X10_cancel_L147 (f_X10_cancel_L122 (nI N) nh nt (nI f) row yl B hi hour x5 (nI cp) (nI cq) n2) m' ca' ti' lo' tw' wa' B x5 (nI k) (nI v) FU 1 = _ := t2
      rw [t1', bN, t2', if_neg (nI_ne0 (by omega) hv)]
      unfold f_X9_cancel_J143 f_X10_cancel_J201
      by_cases z : r = -1
      · rw [if_pos z, if_pos z, st1]
        exact ih (k + 1) n1 n2 mk la du m' ca' ti' lo' tw' wa' (by omega) (by omega) (by omega) (by omega)
      · rw [if_neg z, if_neg z]
        unfold f_X9_cancel_J154 f_X10_cancel_J171
        by_cases c0 : x5 = 0
        · simp only [if_pos c0]
          exact ⟨_, _, _, _, _, _, _, _, _, _, rfl, rfl⟩
        · by_cases c1 : x5 = 1
          · simp only [if_neg c0, if_pos c1]
            exact ⟨_, _, _, _, _, _, _, _, _, _, rfl, rfl⟩
          · simp only [if_neg c0, if_neg c1]
            exact ⟨_, _, _, _, _, _, _, _, _, _, rfl, rfl⟩
theorem cancel_1 {a b f N : Nat} {gr wi lp row yl : Nat → Int32} (S : okSc a b f N gr wi lp row yl) {nh nt : Int32} (hnt : ∃ c : Nat, 1 ≤ c ∧ c ≤ 9 ∧ nt = nI c) (hi hour x5 : Int32) {p q cp cq : Nat} (hp : p < 6) (hq : q < 6) (hcp : cp < a * b) (hcq : cq < a * b) (ep : wi p = nI cp) (eq : wi q = nI cq) : ∀ (d k n1 n2 : Nat) (marks lasting due A B : Nat → Int32) (m : Int32) (ca ti lo tw wa : Nat → Int32), k + d = 41 → 1 ≤ k → d < n1 → d < n2 → (∀ i, 1 ≤ i → i < k → A i = B i) → ∃ r mk la du A' B' m' ca' ti' lo' tw' wa', f_X9_cancel_L74 (nI a) (nI b) (nI f) (nI N) nh nt gr wi lp (nI p) (nI q) hi hour x5 n1 (nI k) marks lasting due A = some (r, mk, la, du, A') ∧ f_X10_cancel_L86 (nI N) nh nt (nI f) row yl hi hour x5 (nI cp) (nI cq) n2 (nI k) m ca ti lo tw wa B = some (r, m', ca', ti', lo', tw', wa', B') := by
  have h36 := mul_le36 S.2.1 S.2.2.2.1
  intro d
  induction d with
  | zero =>
    intro k n1 n2 marks lasting due A B m ca ti lo tw wa hk h1 hn1 hn2 hAB
    obtain ⟨n1, rfl⟩ : ∃ m, n1 = m + 1 := ⟨n1 - 1, by omega⟩
    obtain ⟨n2, rfl⟩ : ∃ m, n2 = m + 1 := ⟨n2 - 1, by omega⟩
    have : k = 41 := by omega
    subst this
    rw [f_X9_cancel_L74, if_pos (show (40 : Int32) < nI 41 by decide), f_X10_cancel_L86, if_pos (show (41 : Int32) ≤ nI 41 by decide)]
    unfold f_X9_cancel_J105 f_X10_cancel_J119
    obtain ⟨r, mk, la, du, m', ca', ti', lo', tw', wa', s1, s2⟩ := cancel_2 S (nh := nh) hnt hi hour x5 hp hq hcp hcq ep eq (A := A) (B := B) (fun i h1 h2 => hAB i h1 (by omega)) 40 1 FU FU marks lasting due m ca ti lo tw wa (by decide) (by decide) (by decide) (by decide)
    exact ⟨r, mk, la, du, A, B, m', ca', ti', lo', tw', wa', s1, s2⟩
  | succ d ih =>
    intro k n1 n2 marks lasting due A B m ca ti lo tw wa hk h1 hn1 hn2 hAB
    obtain ⟨n1, rfl⟩ : ∃ m, n1 = m + 1 := ⟨n1 - 1, by omega⟩
    obtain ⟨n2, rfl⟩ : ∃ m, n2 = m + 1 := ⟨n2 - 1, by omega⟩
    obtain ⟨mk, la, du, s1⟩ := fineToC S nh nt hi hour (h := p) (r := q) (cc := cq) (ch := cp) (l := k) hp hq hcq (by omega) eq ep (by omega) marks lasting due
    obtain ⟨m', ca', ti', lo', tw', wa', s2⟩ := fineToM S nh nt hi hour (cc := cq) (ch := cp) (l := k) hcq (by omega) h1 (by omega) m ca ti lo tw wa
    rw [f_X9_cancel_L74, if_neg (show ¬ (40 : Int32) < nI k from fun q => absurd ((nI_ltI (a := 40) (by decide) (by omega)).mp q) (by omega)), s1, bN, gd_t (ib_nI (show k < 41 by omega) (by decide)), st1, nI_clamp (by omega), f_X10_cancel_L86, if_neg (show ¬ (41 : Int32) ≤ nI k from nI_ge (b := 41) (by omega) (by decide)), s2, bN, gd_t (ib_nI (show k < 41 by omega) (by decide)), st1, nI_clamp (by omega)]
    refine ih (k + 1) n1 n2 mk la du _ _ m' ca' ti' lo' tw' wa' (by omega) (by omega) (by omega) (by omega) (fun i hi1 hi2 => ?_)
    by_cases z : i = k
    · subst z
      rw [upd_same, upd_same]
    · rw [upd_ne _ _ z, upd_ne _ _ z]
      exact hAB i hi1 (by omega)
set_option maxRecDepth 20000 in
theorem ob_cancel : Ob_cancel RR := by
  intro X XA XL Y YA x1 x2 x3 x4 x5 hx h
  obtain ⟨a, b, f, N, S, e5, e6, e7, y5, e8, y2, y3, y4, hnt⟩ := RR_sc2 h
  have hwin := S.2.2.2.2.2.2.2.1
  unfold f_X9_cancel f_X10_cancel
  rw [e5, e6, e7, e8, y5, y2, y3, y4, in_02]
  rcases pcase x1 with ⟨p, hp, rfl, p1, p2⟩ | ⟨p1, p2⟩
  · rcases pcase x2 with ⟨q, hq, rfl, q1, q2⟩ | ⟨q1, q2⟩
    · by_cases hpq : nI p = nI q
      · simp only [p1, p2, q1, q2, bN, i10, if_pos hpq]
        exact ⟨_, _, rfl, rfl, rfl, h⟩
      · rcases hcase x4 with ⟨hr, hh, rfl, t1, t2⟩ | ⟨t1, t2⟩
        · by_cases w0 : x5 < 0
          · simp only [p1, p2, q1, q2, t1, t2, bN, i10, i00, if_neg hpq, if_pos w0, if_neg (fun q : 0 ≤ x5 ∧ x5 ≤ 2 => absurd q.1 (Int32.not_le.mpr w0))]
            exact ⟨_, _, rfl, rfl, rfl, h⟩
          · by_cases w1 : x5 ≤ 2
            · simp only [p1, p2, q1, q2, t1, t2, bN, i10, if_neg hpq, if_neg w0, if_pos w1, if_pos (show 0 ≤ x5 ∧ x5 ≤ 2 from ⟨Int32.not_lt.mp w0, w1⟩), windowOf_nI (XA 3) hp, windowOf_nI (XA 3) hq, show (38 : Int32) + nI p = nI (38 + p) from nI_add 38 p, show (38 : Int32) + nI q = nI (38 + q) from nI_add 38 q, gd_t (ib_nI (show 38 + p < 558 by omega) (by decide)), gd_t (ib_nI (show 38 + q < 558 by omega) (by decide)), nI_clamp (show 38 + p < 2 ^ 31 by omega), nI_clamp (show 38 + q < 2 ^ 31 by omega), (hwin p hp).1, (hwin q hq).1]
              by_cases zp : XA 3 p = -1
              · simp only [if_pos zp]
                exact ⟨_, _, rfl, rfl, rfl, h⟩
              · by_cases zq : XA 3 q = -1
                · simp only [if_neg zp, if_pos zq]
                  exact ⟨_, _, rfl, rfl, rfl, h⟩
                · obtain ⟨cp, hcp, ep, -⟩ := (hwin p hp).2.resolve_left zp
                  obtain ⟨cq, hcq, eq, -⟩ := (hwin q hq).2.resolve_left zq
                  obtain ⟨r, mk, la, du, A', B', m', ca', ti', lo', tw', wa', s1, s2⟩ := cancel_1 S (nh := X 9) hnt x3 (nI hr) x5 hp hq hcp hcq ep eq 40 1 FU FU (XA 35) (XA 36) (XA 39) (XA 43) (YA 14) (Y 12) (YA 6) (YA 7) (YA 8) (YA 9) (YA 10) (by decide) (by decide) (by decide) (by decide) (fun i h1 h2 => by omega)
                  have s1' : f_X9_cancel_L74 (nI a) (nI b) (nI f) (nI N) (X 9) (X 10) (XA 2) (XA 3) (XA 4) (nI p) (nI q) x3 (nI hr) x5 FU 1 (XA 35) (XA 36) (XA 39) (XA 43) = _ := s1
                  have s2' : f_X10_cancel_L86 (nI N) (X 9) (X 10) (nI f) (YA 0) (YA 4) x3 (nI hr) x5 (nI cp) (nI cq) FU 1 (Y 12) (YA 6) (YA 7) (YA 8) (YA 9) (YA 10) (YA 14) = _ := s2
                  simp only [if_neg zp, if_neg zq, s1']
                  rw [ep, eq, s2']
                  exact ⟨_, _, rfl, rfl, rfl, h⟩
            · simp only [p1, p2, q1, q2, t1, t2, bN, i10, i00, if_neg hpq, if_neg w0, if_neg w1, if_neg (fun q : 0 ≤ x5 ∧ x5 ≤ 2 => w1 q.2)]
              exact ⟨_, _, rfl, rfl, rfl, h⟩
        · simp only [p1, p2, q1, q2, t1, t2, bN, i10, i00, if_neg hpq]
          exact ⟨_, _, rfl, rfl, rfl, h⟩
    · simp only [p1, p2, q1, q2, bN, i10, i00]
      exact ⟨_, _, rfl, rfl, rfl, h⟩
  · simp only [p1, p2, bN, i00]
    exact ⟨_, _, rfl, rfl, rfl, h⟩
end M66
