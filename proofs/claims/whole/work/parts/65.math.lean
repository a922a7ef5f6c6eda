section M65
theorem owe_k {debts : Nat → Int32} {p k c d : Nat} (hp : p < 6) (hk : k < 6) (hpk : p ≠ k) (hc : c < 6) (hd : d < 6) (F : Nat → Int32) (hFp : F p = 0) : owe debts p k (F k) (6 * c + d) + (if c = p ∧ k + 1 ≤ d then F d else 0) - (if d = p ∧ k + 1 ≤ c then F c else 0) = debts (6 * c + d) + (if c = p ∧ k ≤ d then F d else 0) - (if d = p ∧ k ≤ c then F c else 0) := by
  rw [owe_at debts hp hk hpk hc hd]
  by_cases h1 : c = p ∧ d = k
  · obtain ⟨rfl, rfl⟩ := h1
    rw [if_pos ⟨rfl, rfl⟩, if_neg (by omega), if_neg (by omega), if_pos (by omega), if_neg (by omega), add_0']
  · rw [if_neg h1]
    by_cases h2 : c = k ∧ d = p
    · obtain ⟨rfl, rfl⟩ := h2
      rw [if_pos ⟨rfl, rfl⟩, if_neg (by omega), if_neg (by omega), if_neg (by omega), if_pos (by omega), add_0', add_0']
      exact Int32.sub_zero _
    · rw [if_neg h2]
      have e1 : (if c = p ∧ k + 1 ≤ d then F d else 0) = if c = p ∧ k ≤ d then F d else 0 := by
        by_cases q : c = p ∧ k ≤ d
        · rw [if_pos q, if_pos (by omega)]
        · rw [if_neg q, if_neg (by omega)]
      have e2 : (if d = p ∧ k + 1 ≤ c then F c else 0) = if d = p ∧ k ≤ c then F c else 0 := by
        by_cases q : d = p ∧ k ≤ c
        · rw [if_pos q, if_pos (by omega)]
        · rw [if_neg q, if_neg (by omega)]
      rw [e1, e2]
theorem cry_L70 {a b : Nat} (ha : a ≤ 6) (hb : b ≤ 6) {gr wi lp : Nat → Int32} (hwin : ∀ p, p < 6 → wi p = -1 ∨ ∃ c : Nat, c < a * b ∧ wi p = nI c ∧ gr c = -1) (mk la : Nat → Int32) {due : Nat → Int32} {N : Nat} {L : List (Nat × Nat × Nat × Nat × Nat)} (hd : ∀ c, c < 36 → due c = fs lp N L c) {p : Nat} (hp : p < 6) (cr : Int32) (ci lou hig hou : Nat → Int32) (x2 x3 x4 x7 T : Int32) : ∀ (d k n : Nat) (debts : Nat → Int32), k + d = 6 → d < n → ∃ debts', f_X9_cry_L70 wi cr ci lou hig hou mk la due (nI p) x2 x3 x4 x7 T n (nI k) debts = f_X9_cry_J118 cr debts' ci lou hig hou mk la due (nI p) x2 x3 x4 x7 ∧ ∀ c d, c < 6 → d < 6 → debts' (6 * c + d) = debts (6 * c + d) + (if c = p ∧ k ≤ d then ds lp N L wi p d * T else 0) - (if d = p ∧ k ≤ c then ds lp N L wi p c * T else 0) := by
  have hF : ds lp N L wi p p * T = 0 := by
    have : ds lp N L wi p p = 0 := if_pos rfl
    rw [this, Int32.zero_mul]
  intro d
  induction d with
  | zero =>
    intro k n debts hk hn
    obtain ⟨n, rfl⟩ : ∃ m, n = m + 1 := ⟨n - 1, by omega⟩
    have : k = 6 := by omega
    subst this
    refine ⟨debts, by rw [f_X9_cry_L70, if_pos (show (6 : Int32) ≤ nI 6 by decide)], fun c d hc hd => ?_⟩
    rw [if_neg (by omega), if_neg (by omega), add_0']
    exact (Int32.sub_zero _).symm
  | succ d ih =>
    intro k n debts hk hn
    obtain ⟨n, rfl⟩ : ∃ m, n = m + 1 := ⟨n - 1, by omega⟩
    rw [f_X9_cry_L70, if_neg (show ¬ (6 : Int32) ≤ nI k from nI_ge (b := 6) (by omega) (by decide))]
    unfold f_X9_cry_J112
    rw [st1]
    by_cases q : k = p
    · subst q
      rw [if_pos rfl]
      obtain ⟨debts', h1, h2⟩ := ih (k + 1) n debts (by omega) (by omega)
      refine ⟨debts', h1, fun c d hc hd => ?_⟩
      rw [h2 c d hc hd]
      have e1 : (if c = k ∧ k + 1 ≤ d then ds lp N L wi k d * T else 0) = if c = k ∧ k ≤ d then ds lp N L wi k d * T else 0 := by
        by_cases z : c = k ∧ k + 1 ≤ d
        · rw [if_pos z, if_pos (by omega)]
        · rw [if_neg z]
          by_cases y : c = k ∧ k ≤ d
          · have : d = k := by omega
            rw [if_pos y, this, hF]
          · rw [if_neg y]
      have e2 : (if d = k ∧ k + 1 ≤ c then ds lp N L wi k c * T else 0) = if d = k ∧ k ≤ c then ds lp N L wi k c * T else 0 := by
        by_cases z : d = k ∧ k + 1 ≤ c
        · rw [if_pos z, if_pos (by omega)]
        · rw [if_neg z]
          by_cases y : d = k ∧ k ≤ c
          · have : c = k := by omega
            rw [if_pos y, this, hF]
          · rw [if_neg y]
      rw [e1, e2]
    · rw [if_neg (fun z => q ((nI_eq (by omega) (by omega)).mp z)), windowOf_nI wi (show k < 6 by omega), bN, due_win hd q (win_c ha hb (hwin k (by omega))), bN, owe_nI debts hp (show k < 6 by omega), bN]
      obtain ⟨debts', h1, h2⟩ := ih (k + 1) n (owe debts p k (ds lp N L wi p k * T)) (by omega) (by omega)
      refine ⟨debts', h1, fun c d hc hd => ?_⟩
      rw [h2 c d hc hd]
      exact owe_k hp (show k < 6 by omega) (fun z => q z.symm) hc hd (fun q => ds lp N L wi p q * T) hF
theorem cry_L129 {a b : Nat} (ha : a ≤ 6) (hb : b ≤ 6) {gr wi lp yl : Nat → Int32} (hwin : ∀ p, p < 6 → wi p = -1 ∨ ∃ c : Nat, c < a * b ∧ wi p = nI c ∧ gr c = -1) (nh nt hour x7 : Int32) {N : Nat} (hLw : okL N lp yl) {L : List (Nat × Nat × Nat × Nat × Nat)} {m : Int32} {ca ti lo tw wa : Nat → Int32} (hL : LayS L (m, ca, ti, lo, tw, wa)) (h480 : L.length ≤ 480) (hbb : ∀ e ∈ L, e.1 < 36 ∧ e.2.2.2.1 ≤ 60) {p : Nat} (hp : p < 6) : ∀ (d k n : Nat) (row : Nat → Int32), k + d = 6 → d < n → (∀ q, q < 6 → row (38 + q) = wi q) → ∃ row', f_X10_cry_L129 (nI N) nh nt m yl ca ti lo tw wa (nI p) hour x7 n (nI k) row = some (x7, m, row', ca, ti, lo, tw, wa) ∧ (∀ q, k ≤ q → q < 6 → row' (44 + 6 * p + q) = row (44 + 6 * p + q) + ds lp N L wi p q * tI nh nt hour) ∧ ∀ i, (∀ q, k ≤ q → q < 6 → i ≠ 44 + 6 * p + q) → row' i = row i := by
  intro d
  induction d with
  | zero =>
    intro k n row hk hn hw
    obtain ⟨n, rfl⟩ : ∃ m, n = m + 1 := ⟨n - 1, by omega⟩
    have : k = 6 := by omega
    subst this
    exact ⟨row, by rw [f_X10_cry_L129, if_pos (show (6 : Int32) ≤ nI 6 by decide)], fun q h1 h2 => by omega, fun i _ => rfl⟩
  | succ d ih =>
    intro k n row hk hn hw
    obtain ⟨n, rfl⟩ : ∃ m, n = m + 1 := ⟨n - 1, by omega⟩
    have key : f_X10_cry_L129 (nI N) nh nt m yl ca ti lo tw wa (nI p) hour x7 (n + 1) (nI k) row = f_X10_cry_L129 (nI N) nh nt m yl ca ti lo tw wa (nI p) hour x7 n (nI (k + 1)) (upd row (44 + 6 * p + k) (row (44 + 6 * p + k) + ds lp N L wi p k * tI nh nt hour)) := by
      rw [f_X10_cry_L129, if_neg (show ¬ (6 : Int32) ≤ nI k from nI_ge (b := 6) (by omega) (by decide))]
      unfold f_X10_cry_J191 f_X10_cry_J192
      simp only [e44, gd_t (ib_nI (show 44 + 6 * p + k < 558 by omega) (show 558 < 2 ^ 31 by decide)), show (38 : Int32) + nI k = nI (38 + k) from nI_add 38 k, gd_t (ib_nI (show 38 + k < 558 by omega) (show 558 < 2 ^ 31 by decide)), nI_clamp (show 38 + k < 2 ^ 31 by omega), hw k (by omega), nI_clamp (show 44 + 6 * p + k < 2 ^ 31 by omega), st1]
      by_cases q : k = p
      · have e0 : ds lp N L wi p k = 0 := if_pos q
        rw [if_pos (by rw [q]), e0, Int32.zero_mul]
      · rw [if_neg (fun z => q ((nI_eq (by omega) (by omega)).mp z))]
        rcases win_c ha hb (hwin k (by omega)) with h | ⟨c, h1, h2, h3, h4⟩
        · have e0 : ds lp N L wi p k = 0 := by unfold ds; rw [if_neg q, if_pos h]
          rw [if_pos h, e0, Int32.zero_mul]
        · rw [if_neg h3, fines_win hL h480 hbb hLw nh nt hour q h1 h2, bN]
    rw [key]
    obtain ⟨row', h1, h2, h3⟩ := ih (k + 1) n (upd row (44 + 6 * p + k) (row (44 + 6 * p + k) + ds lp N L wi p k * tI nh nt hour)) (by omega) (by omega) (fun q hq => (upd_ne _ _ (by omega)).trans (hw q hq))
    refine ⟨row', h1, fun q hq1 hq2 => ?_, fun i hi => ?_⟩
    · by_cases z : q = k
      · subst z
        rw [h3 _ (fun q' h h' => by omega), upd_same]
      · rw [h2 q (by omega) hq2, upd_ne _ _ (by omega)]
    · rw [h3 i (fun q h h' => hi q (by omega) h'), upd_ne _ _ (hi k (Nat.le_refl _) (by omega))]
theorem addCry_nI (ci lo hi ho : Nat → Int32) {n : Nat} (hn : n < 20) (x1 x2 x3 x4 : Int32) : f_X1_addCry (nI n) ci lo hi ho x1 x2 x3 x4 = some (nI (n + 1), upd ci n x1, upd lo n x2, upd hi n (vp_nar .boolean x3), upd ho n x4) := by
  unfold f_X1_addCry
  rw [if_neg (nI_pos (by omega)), if_pos (show nI n < 20 from nI_lt (b := 20) hn (by decide)), gd_t (ib_nI hn (by decide)), gd_t (ib_nI hn (by decide)), gd_t (ib_nI hn (by decide)), gd_t (ib_nI hn (by decide)), st1, nI_clamp (by omega)]
def rowC (row : Nat → Int32) (n p l h : Nat) (k0 : Int32) : Nat → Int32 := upd (upd (upd (upd (upd row (81 + 4 * n) (nI p)) (82 + 4 * n) (nI l)) (83 + 4 * n) k0) (84 + 4 * n) (nI h)) 80 (nI (n + 1))
theorem rowC_ne (row : Nat → Int32) (n p l h : Nat) (k0 : Int32) {i : Nat} (h80 : i ≠ 80) (hi : i < 81 + 4 * n ∨ 84 + 4 * n < i) : rowC row n p l h k0 i = row i := by
  unfold rowC
  rw [upd_ne _ _ h80, upd_ne _ _ (by omega), upd_ne _ _ (by omega), upd_ne _ _ (by omega), upd_ne _ _ (by omega)]
theorem cry_J83 {a b f N : Nat} {gr wi lp row yl : Nat → Int32} (S : okSc a b f N gr wi lp row yl) (nh nt hi : Int32) {n p l h c : Nat} (hn : n < 20) (h80 : row 80 = nI n) (hp : p < 6) (hl1 : 1 ≤ l) (hl : l ≤ 99) (hc : c < a * b) (ec : wi p = nI c) (k0 m0 : Int32) (ca0 ti0 lo0 tw0 wa0 : Nat → Int32) : ∃ m row' ca ti lo tw wa, f_X10_cry_J83 (nI N) nh nt (nI f) m0 (upd (upd row (81 + 4 * n) (nI p)) (82 + 4 * n) (nI l)) yl ca0 ti0 lo0 tw0 wa0 (nI p) (nI l) hi (nI h) (nI (81 + 4 * n)) k0 (nI (83 + 4 * n)) = some (sm (ds lp N (lsU (Wy a b gr f hi c l) 8) wi p) 6 * tI nh nt (nI h), m, row', ca, ti, lo, tw, wa) ∧ (∀ q, q < 6 → row' (44 + 6 * p + q) = row (44 + 6 * p + q) + ds lp N (lsU (Wy a b gr f hi c l) 8) wi p q * tI nh nt (nI h)) ∧ ∀ i, (∀ q, q < 6 → i ≠ 44 + 6 * p + q) → row' i = rowC row n p l h k0 i := by
  have S1 : okSc a b f N gr wi lp (rowC row n p l h k0) yl := okSc_row S (fun i hi => rowC_ne row n p l h k0 (by omega) (by omega))
  obtain ⟨m, ca, ti, lo, tw, wa, s2, hLay⟩ := costM S1 nh nt hi (nI h) hc hl1 hl hp m0 ca0 ti0 lo0 tw0 wa0
  have hW := okWy S.2.1 S.2.2.2.1 gr f hi hc hl
  obtain ⟨row', k1, k2, k3⟩ := cry_L129 S.2.1 S.2.2.2.1 (fun p hp => (S.2.2.2.2.2.2.2.1 p hp).2) nh nt (nI h) (sm (ds lp N (lsU (Wy a b gr f hi c l) 8) wi p) 6 * tI nh nt (nI h)) S.2.2.2.2.2.2.2.2 hLay (lsU480 hW) (lsU_b2 S.2.1 S.2.2.2.1 hW) hp 6 0 FU (rowC row n p l h k0) rfl (by decide) (fun q hq => (S1.2.2.2.2.2.2.2.1 q hq).1)
  refine ⟨m, row', ca, ti, lo, tw, wa, ?_, fun q hq => (k2 q (Nat.zero_le _) hq).trans ?_, fun i hi => k3 i (fun q _ hq => hi q hq)⟩
  · unfold f_X10_cry_J83
    have c3 : nI (81 + 4 * n) + 3 = nI (84 + 4 * n) := by
      rw [show (3 : Int32) = nI 3 from rfl, nI_add]; congr 1; omega
    have e80 : Int32.toNatClampNeg 80 = 80 := rfl
    have e1 : upd (upd (upd (upd row (81 + 4 * n) (nI p)) (82 + 4 * n) (nI l)) (83 + 4 * n) k0) (84 + 4 * n) (nI h) 80 + 1 = nI (n + 1) := by
      rw [upd_ne _ _ (by omega), upd_ne _ _ (by omega), upd_ne _ _ (by omega), upd_ne _ _ (by omega), h80, st1]
    have ew : rowC row n p l h k0 (38 + p) = nI c := by
      rw [rowC_ne row n p l h k0 (by omega) (by omega), (S.2.2.2.2.2.2.2.1 p hp).1, ec]
    simp only [c3, gd_t (ib_nI (show 83 + 4 * n < 558 by omega) (by decide)), gd_t (ib_nI (show 84 + 4 * n < 558 by omega) (by decide)), gd_t ib80, e80, nI_clamp (show 83 + 4 * n < 2 ^ 31 by omega), nI_clamp (show 84 + 4 * n < 2 ^ 31 by omega), e1, show (38 : Int32) + nI p = nI (38 + p) from nI_add 38 p, gd_t (ib_nI (show 38 + p < 558 by omega) (by decide)), nI_clamp (show 38 + p < 2 ^ 31 by omega)]
    have fold : upd (upd (upd (upd (upd row (81 + 4 * n) (nI p)) (82 + 4 * n) (nI l)) (83 + 4 * n) k0) (84 + 4 * n) (nI h)) 80 (nI (n + 1)) = rowC row n p l h k0 := rfl
    rw [fold, ew, s2, bN]
    exact k1
  · rw [rowC_ne row n p l h k0 (by omega) (by omega)]
theorem ring4 (x y u v : Int32) : x - y + u - v = x + u - (y + v) := by grind
theorem nar_b {x : Int32} (h : x = 0 ∨ x = 1) : vp_nar .boolean x = x := by
  rcases h with rfl | rfl <;> rfl
theorem cry_R {a b f N : Nat} {gr wi lp row yl : Nat → Int32} (S : okSc a b f N gr wi lp row yl) (nh nt hi : Int32) (hx : hi = 0 ∨ hi = 1) {n p l h c : Nat} (hn : n < 20) (h80 : row 80 = nI n) (hp : p < 6) (hl1 : 1 ≤ l) (hl : l ≤ 99) (hh : h < 24) (hc : c < a * b) (ec : wi p = nI c) {debts debts' ci lou hig hou he mi row' : Nat → Int32} {no : Int32} (hB : RBook (nI n) no debts ci lou hig hou he mi row 0) (F : Nat → Int32) (hd : ∀ c d, c < 6 → d < 6 → debts' (6 * c + d) = debts (6 * c + d) + (if c = p ∧ 0 ≤ d then F d else 0) - (if d = p ∧ 0 ≤ c then F c else 0)) (k2 : ∀ q, q < 6 → row' (44 + 6 * p + q) = row (44 + 6 * p + q) + F q) (k3 : ∀ i, (∀ q, q < 6 → i ≠ 44 + 6 * p + q) → row' i = rowC row n p l h hi i) : RBook (nI (n + 1)) no debts' (upd ci n (nI p)) (upd lou n (nI l)) (upd hig n (vp_nar .boolean hi)) (upd hou n (nI h)) he mi row' 0 := by
  obtain ⟨b1, ⟨n', hn', c1, c2, c3⟩, kk, hk, n1, n2, n3⟩ := hB
  have hnn : n' = n := ((nI_eq (by omega) (by omega)).mp c1).symm
  subst hnn
  simp only [Nat.zero_add] at b1 c2 n2
  have hr44 : ∀ c d, c < 6 → d < 6 → row' (44 + 6 * c + d) = row (44 + 6 * c + d) + (if c = p ∧ 0 ≤ d then F d else 0) := fun c2 d2 hc2 hd2 => by
    by_cases q : c2 = p
    · rw [q, k2 d2 hd2, if_pos ⟨rfl, Nat.zero_le _⟩]
    · rw [if_neg (fun z => q z.1), add_0', k3 _ (fun q' hq' => by omega), rowC_ne row n' p l h hi (by omega) (by omega)]
  refine ⟨fun c d hc hd' => ?_, ⟨n' + 1, by omega, rfl, ?_, fun i hi' => ?_⟩, kk, hk, n1, ?_, fun i hi' => ?_⟩
  · simp only [Nat.zero_add]
    rw [hd c d hc hd', hr44 c d hc hd', hr44 d c hd' hc, b1 c d hc hd']
    exact ring4 _ _ _ _
  · rw [k3 _ (fun q hq => by omega)]
    exact upd_same _ _ _
  · by_cases q : i = n'
    · subst q
      refine ⟨?_, ?_, ?_, ?_, ⟨p, hp, upd_same _ _ _⟩, ⟨l, hl1, hl, upd_same _ _ _⟩, ?_, ⟨h, hh, upd_same _ _ _⟩⟩
      · rw [k3 _ (fun q hq => by omega), upd_same]
        unfold rowC
        rw [upd_ne _ _ (by omega), upd_ne _ _ (by omega), upd_ne _ _ (by omega), upd_ne _ _ (by omega), Nat.zero_add, upd_same]
      · rw [k3 _ (fun q hq => by omega), upd_same]
        unfold rowC
        rw [upd_ne _ _ (by omega), upd_ne _ _ (by omega), upd_ne _ _ (by omega), Nat.zero_add, upd_same]
      · rw [k3 _ (fun q hq => by omega), upd_same, nar_b hx]
        unfold rowC
        rw [upd_ne _ _ (by omega), upd_ne _ _ (by omega), Nat.zero_add, upd_same]
      · rw [k3 _ (fun q hq => by omega), upd_same]
        unfold rowC
        rw [upd_ne _ _ (by omega), Nat.zero_add, upd_same]
      · rw [upd_same, nar_b hx]
        exact hx
    · obtain ⟨g1, g2, g3, g4, g5⟩ := c3 i (by omega)
      have hrr : ∀ j, j < 4 → row' (0 + (81 + j + 4 * i)) = row (0 + (81 + j + 4 * i)) := fun j hj => by
        rw [k3 _ (fun q hq => by omega), rowC_ne row n' p l h hi (by omega) (by omega)]
      refine ⟨?_, ?_, ?_, ?_, ?_⟩
      · rw [upd_ne _ _ q]; exact (hrr 0 (by decide)).trans g1
      · rw [upd_ne _ _ q]; exact (hrr 1 (by decide)).trans g2
      · rw [upd_ne _ _ q]; exact (hrr 2 (by decide)).trans g3
      · rw [upd_ne _ _ q]; exact (hrr 3 (by decide)).trans g4
      · rw [upd_ne _ _ q, upd_ne _ _ q, upd_ne _ _ q, upd_ne _ _ q]; exact g5
  · rw [k3 _ (fun q hq => by omega), rowC_ne row n' p l h hi (by omega) (by omega)]
    exact n2
  · obtain ⟨g1, g2, g5⟩ := n3 i hi'
    have hrr : ∀ j, j < 2 → row' (0 + (162 + j + 2 * i)) = row (0 + (162 + j + 2 * i)) := fun j hj => by
      rw [k3 _ (fun q hq => by omega), rowC_ne row n' p l h hi (by omega) (by omega)]
    exact ⟨(hrr 0 (by decide)).trans g1, (hrr 1 (by decide)).trans g2, g5⟩
set_option maxRecDepth 20000 in
theorem ob_cry : Ob_cry RR := by
  intro X XA XL Y YA x1 x2 x3 x4 hx h
  obtain ⟨a, b, f, N, S, e5, e6, e7, y5, e8, y2, y3, y4, hnt⟩ := RR_sc2 h
  have hwin := S.2.2.2.2.2.2.2.1
  have h0 := h
  obtain ⟨ht, hcan, hlaw, hbk, hi1, hi2⟩ := h0
  have hbk0 := hbk
  obtain ⟨b1, ⟨n, hn, c1, c2, c3⟩, hnotes⟩ := hbk0
  simp only [Nat.zero_add] at c2
  unfold f_X9_cry f_X10_cry
  rw [e5, e6, e7, e8, y5, y2, y3, y4]
  rcases refcase (fun p hp => (hwin p hp).1) x1 x2 x4 with ⟨r, r1, r2, q1, q2⟩ | ⟨p, l, hr, hp, hl1, hl, hh, rfl, rfl, rfl, hz, q1, q2⟩
  · simp only [q1, q2, bN, if_neg r1, if_neg r2]
    exact ⟨_, _, rfl, rfl, rfl, h⟩
  · have e80 : Int32.toNatClampNeg 80 = 80 := rfl
    by_cases hn20 : n = 20
    · have g1 : ¬ X 17 < 20 := by rw [c1, hn20]; decide
      have g2 : YA 0 80 = 20 := by rw [c2, hn20]; rfl
      simp only [q1, q2, bN, if_true, le00, gd_t ib80, e80, if_neg g1, if_pos g2]
      exact ⟨_, _, rfl, rfl, rfl, h⟩
    · have hn' : n < 20 := by omega
      have g1 : X 17 < 20 := by rw [c1]; exact nI_lt (b := 20) hn' (by decide)
      have g2 : ¬ nI n = 20 := fun z => hn20 ((nI_eq (by omega) (by decide)).mp (show nI n = nI 20 from z))
      obtain ⟨c, hc, ec, -⟩ := (hwin p hp).2.resolve_left hz
      obtain ⟨mk, la, du, s1, hdu⟩ := costC S (X 9) (X 10) x3 (nI hr) hc hl hp (XA 35) (XA 36) (XA 39)
      obtain ⟨debts', s3, hdb⟩ := cry_L70 S.2.1 S.2.2.2.1 (fun p hp => (hwin p hp).2) mk la hdu hp (X 17) (XA 9) (XA 10) (XA 11) (XA 12) (nI l) x3 (nI hr) (sm (ds (XA 4) N (lsU (Wy a b (XA 2) f x3 c l) 8) (XA 3) p) 6 * tI (X 9) (X 10) (nI hr)) (tI (X 9) (X 10) (nI hr)) 6 0 FU (XA 8) rfl (by decide)
      have s3' : f_X9_cry_L70 (XA 3) (X 17) (XA 9) (XA 10) (XA 11) (XA 12) mk la du (nI p) (nI l) x3 (nI hr) (sm (ds (XA 4) N (lsU (Wy a b (XA 2) f x3 c l) 8) (XA 3) p) 6 * tI (X 9) (X 10) (nI hr)) (tI (X 9) (X 10) (nI hr)) FU 0 (XA 8) = _ := s3
      obtain ⟨m, row', ca, ti, lo, tw, wa, s4, k2, k3⟩ := cry_J83 S (X 9) (X 10) x3 (h := hr) hn' c2 hp hl1 hl hc ec x3 (Y 12) (YA 6) (YA 7) (YA 8) (YA 9) (YA 10)
      have i81 : 81 + 4 * nI n = nI (81 + 4 * n) := by rw [show (4 : Int32) = nI 4 from rfl, nI_mul]; exact nI_add 81 (4 * n)
      have i82 : nI (81 + 4 * n) + 1 = nI (82 + 4 * n) := by rw [st1]; congr 1; omega
      have i83 : nI (81 + 4 * n) + 2 = nI (83 + 4 * n) := by rw [show (2 : Int32) = nI 2 from rfl, nI_add]; congr 1; omega
      have hJ : (if x3 = 0 then f_X10_cry_J83 (nI N) (X 9) (X 10) (nI f) (Y 12) (upd (upd (YA 0) (81 + 4 * n) (nI p)) (82 + 4 * n) (nI l)) (YA 4) (YA 6) (YA 7) (YA 8) (YA 9) (YA 10) (nI p) (nI l) x3 (nI hr) (nI (81 + 4 * n)) 0 (nI (83 + 4 * n)) else f_X10_cry_J83 (nI N) (X 9) (X 10) (nI f) (Y 12) (upd (upd (YA 0) (81 + 4 * n) (nI p)) (82 + 4 * n) (nI l)) (YA 4) (YA 6) (YA 7) (YA 8) (YA 9) (YA 10) (nI p) (nI l) x3 (nI hr) (nI (81 + 4 * n)) 1 (nI (83 + 4 * n))) = some (sm (ds (XA 4) N (lsU (Wy a b (XA 2) f x3 c l) 8) (XA 3) p) 6 * tI (X 9) (X 10) (nI hr), m, row', ca, ti, lo, tw, wa) := by
        rw [← s4]
        rcases hx with z | z
        · rw [if_pos z, z]
        · rw [if_neg (by rw [z]; decide), z]
      simp only [q1, q2, bN, if_true, le00, gd_t ib80, e80, if_pos g1, if_neg g2, windowOf_nI (XA 3) hp, ec, s1, timesInC, s3', c2, i81, i82, i83, gd_t (ib_nI (show 81 + 4 * n < 558 by omega) (by decide)), gd_t (ib_nI (show 82 + 4 * n < 558 by omega) (by decide)), nI_clamp (show 81 + 4 * n < 2 ^ 31 by omega), nI_clamp (show 82 + 4 * n < 2 ^ 31 by omega), hJ]
      unfold f_X9_cry_J118
      rw [c1, addCry_nI _ _ _ _ hn', bN]
      rw [c1] at hbk
      have hB := cry_R S (X 9) (X 10) x3 hx (h := hr) hn' c2 hp hl1 hl hh hc ec hbk (fun q => ds (XA 4) N (lsU (Wy a b (XA 2) f x3 c l) 8) (XA 3) p q * tI (X 9) (X 10) (nI hr)) hdb k2 k3
      refine ⟨_, _, rfl, rfl, rfl, ?_⟩
      refine ⟨ht, ?_, hlaw, hB, ?_, ?_⟩
      · exact RCan_row (row' := row') hcan (fun i hi => by rw [Nat.zero_add, k3 i (fun q hq => by omega), rowC_ne _ _ _ _ _ _ (by omega) (by omega)])
      · exact RImg_row (row' := row') hi1 (fun i hi => by rw [k3 _ (fun q hq => by omega), rowC_ne _ _ _ _ _ _ (by omega) (by omega)])
      · exact RImg_row (row' := row') hi2 (fun i hi => by rw [k3 _ (fun q hq => by omega), rowC_ne _ _ _ _ _ _ (by omega) (by omega)])
end M65
