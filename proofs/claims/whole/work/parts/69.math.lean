section M69
/-- whether all notes fit -/
def ftB (wi he mi : Nat → Int32) (L : List (Nat × Nat × Nat × Nat × Nat)) (p : Nat) (mm : Int32) : Nat → Nat → Bool
  | 0, _ => true
  | d + 1, k => if he k = nI p then false else if wi (sN (he k)) = -1 then false else if hdI L (sN (wi (sN (he k)))) (mi k - mm) then ftB wi he mi L p mm d (k + 1) else false
def okN (K : Nat) (he mi row : Nat → Int32) : Prop := K ≤ 12 ∧ row 161 = nI K ∧ ∀ i, i < K → RNote i he mi row 0
theorem noteOf {f : Nat → Int32} {k : Nat} (h : k < 12) : f_X1_hearerOf f (nI k) = some (f k) ∧ f_X1_minuteOf f (nI k) = some (f k) := by
  have e : f_X1_isNote (nI k) = some 1 := by
    unfold f_X1_isNote
    rw [if_neg (nI_pos (by omega)), if_neg (show ¬ (12 : Int32) ≤ nI k from nI_ge (b := 12) h (by decide))]
  refine ⟨?_, ?_⟩
  · unfold f_X1_hearerOf
    rw [e, bN, i10, gd_t (ib_nI h (by decide)), nI_clamp (by omega)]
  · unfold f_X1_minuteOf
    rw [e, bN, i10, gd_t (ib_nI h (by decide)), nI_clamp (by omega)]
theorem fits_L {a b : Nat} (ha : a ≤ 6) (hb : b ≤ 6) {gr wi : Nat → Int32} (hwin : ∀ p, p < 6 → wi p = -1 ∨ ∃ c : Nat, c < a * b ∧ wi p = nI c ∧ gr c = -1) {L : List (Nat × Nat × Nat × Nat × Nat)} (hbL : ∀ e ∈ L, 1 ≤ e.2.1 ∧ e.2.1 ≤ 60) {tH : Nat → Int64} (hH : HrT L tH) {K : Nat} {he mi row : Nat → Int32} (hN : okN K he mi row) {p : Nat} (hp : p < 6) (mm : Int32) : ∀ (d k n : Nat), k + d = K → d < n → f_X3_fits_L3 tH wi (nI K) he mi (nI p) mm n (nI k) = some (if ftB wi he mi L p mm d k then 1 else 0) := by
  obtain ⟨hK, h161, hno⟩ := hN
  intro d
  induction d with
  | zero =>
    intro k n hk hn
    obtain ⟨n, rfl⟩ : ∃ m, n = m + 1 := ⟨n - 1, by omega⟩
    have : k = K := by omega
    subst this
    rw [f_X3_fits_L3, if_pos (nI_le (Nat.le_refl _) (by omega))]
    rfl
  | succ d ih =>
    intro k n hk hn
    obtain ⟨n, rfl⟩ : ∃ m, n = m + 1 := ⟨n - 1, by omega⟩
    obtain ⟨g1, g2, ⟨q, hq, eq⟩, ⟨u, hu, eu⟩⟩ := hno k (by omega)
    rw [f_X3_fits_L3, if_neg (nI_ge (show k < K by omega) (by omega)), (noteOf (f := he) (show k < 12 by omega)).1, bN, (noteOf (f := mi) (show k < 12 by omega)).2, bN, ftB, st1, ih (k + 1) n (by omega) (by omega)]
    by_cases z : he k = nI p
    · rw [if_pos z, if_pos z]
      rfl
    · rw [if_neg z, if_neg z, eq, sN_nI (by omega), windowOf_nI wi hq, bN]
      rcases win_c ha hb (hwin q hq) with h | ⟨c, h1, h2, h3, h4⟩
      · rw [if_pos h, h, isHeard_none, bN, i00]
        rfl
      · rw [if_neg h3, h4, h2, isHeardC hbL hH h1, bN]
        cases hdI L c (mi k - mm) with
        | false => rfl
        | true => rfl
theorem fits_LM {a b : Nat} (ha : a ≤ 6) (hb : b ≤ 6) {gr wi row : Nat → Int32} (hwin : ∀ p, p < 6 → row (38 + p) = wi p ∧ (wi p = -1 ∨ ∃ c : Nat, c < a * b ∧ wi p = nI c ∧ gr c = -1)) {L : List (Nat × Nat × Nat × Nat × Nat)} {m : Int32} {ca ti lo tw wa : Nat → Int32} (hL : LayS L (m, ca, ti, lo, tw, wa)) (h480 : L.length ≤ 480) (hbL : ∀ e ∈ L, e.1 < 36) {K : Nat} {he mi : Nat → Int32} (hN : okN K he mi row) {p : Nat} (hp : p < 6) (x4 mm : Int32) (rc : Int32 → Int32 → Option (Int32 × Int32 × (Nat → Int32) × (Nat → Int32) × (Nat → Int32) × (Nat → Int32) × (Nat → Int32))) : ∀ (d k n : Nat), k + d = K → d + 1 < n → f_X10_minutesOf_L49 rc m row ca ti (nI p) x4 mm n 1 (nI k) = rc (x4 + (if ftB wi he mi L p mm d k then 1 else 0)) (mm + 1) := by
  obtain ⟨hK, h161, hno⟩ := hN
  have e161 : Int32.toNatClampNeg 161 = 161 := rfl
  have stop : ∀ (n : Nat) (x7 : Int32), f_X10_minutesOf_L49 rc m row ca ti (nI p) x4 mm (n + 1) 0 x7 = rc (x4 + 0) (mm + 1) := fun n x7 => by
    rw [f_X10_minutesOf_L49, gd_t ib161]
    unfold f_X10_minutesOf_J150 f_X10_minutesOf_J162
    by_cases y : row (Int32.toNatClampNeg 161) ≤ x7
    · rw [if_pos y, i00]
    · rw [if_neg y, i00, i00]
  intro d
  induction d with
  | zero =>
    intro k n hk hn
    obtain ⟨n, rfl⟩ : ∃ m, n = m + 1 := ⟨n - 1, by omega⟩
    have : k = K := by omega
    subst this
    rw [f_X10_minutesOf_L49, gd_t ib161, e161, h161, if_pos (nI_le (Nat.le_refl _) (by omega))]
    unfold f_X10_minutesOf_J150 f_X10_minutesOf_J162
    rw [i10]
    rfl
  | succ d ih =>
    intro k n hk hn
    obtain ⟨n, rfl⟩ : ∃ m, n = m + 1 := ⟨n - 1, by omega⟩
    obtain ⟨n', rfl⟩ : ∃ m, n = m + 1 := ⟨n - 1, by omega⟩
    obtain ⟨g1, g2, ⟨q, hq, eq⟩, ⟨u, hu, eu⟩⟩ := hno k (by omega)
    simp only [Nat.zero_add] at g1 g2
    have i162 : 162 + 2 * nI k = nI (162 + 2 * k) := by rw [show (2 : Int32) = nI 2 from rfl, nI_mul]; exact nI_add 162 (2 * k)
    have i163 : nI (162 + 2 * k) + 1 = nI (163 + 2 * k) := by rw [st1]; congr 1; omega
    rw [f_X10_minutesOf_L49]
    unfold f_X10_minutesOf_J141 f_X10_minutesOf_J142
    simp only [gd_t ib161, e161, h161, if_neg (nI_ge (show k < K by omega) (show K < 2 ^ 31 by omega)), i10, i162, i163, gd_t (ib_nI (show 162 + 2 * k < 558 by omega) (show 558 < 2 ^ 31 by decide)), gd_t (ib_nI (show 163 + 2 * k < 558 by omega) (show 558 < 2 ^ 31 by decide)), nI_clamp (show 162 + 2 * k < 2 ^ 31 by omega), nI_clamp (show 163 + 2 * k < 2 ^ 31 by omega), g1, g2, st1, stop n']
    rw [ih (k + 1) (n' + 1) (by omega) (by omega), ftB]
    by_cases z : he k = nI p
    · rw [if_pos z, if_pos z]
      rfl
    · rw [if_neg z, if_neg z]
      simp only [eq, sN_nI (show q < 2 ^ 31 by omega), show (38 : Int32) + nI q = nI (38 + q) from nI_add 38 q, gd_t (ib_nI (show 38 + q < 558 by omega) (show 558 < 2 ^ 31 by decide)), nI_clamp (show 38 + q < 2 ^ 31 by omega), (hwin q hq).1]
      rcases win_c ha hb (hwin q hq).2 with h | ⟨c, h1, h2, h3, h4⟩
      · rw [if_pos h, if_pos h]
        rfl
      · rw [if_neg h3, if_neg h3, h4, h2, isHeardM hL h480 hbL h1, bN]
        cases hdI L c (mi k - mm) with
        | false => rfl
        | true => rfl
def mF (wi he mi : Nat → Int32) (K : Nat) (L : List (Nat × Nat × Nat × Nat × Nat)) (p mm : Nat) : Int32 := if ftB wi he mi L p (nI mm) K 0 then 1 else 0
def vM (a b f K : Nat) (gr wi he mi : Nat → Int32) (hi : Int32) (l p : Nat) : Int32 := if wi p = -1 then 0 else sm (mF wi he mi K (lsU (Wy a b gr f hi (sN (wi p)) l) 8) p) 100
theorem vM_nI (a b f K : Nat) (gr wi he mi : Nat → Int32) (hi : Int32) (l p : Nat) : ∃ v : Nat, v ≤ 100 ∧ vM a b f K gr wi he mi hi l p = nI v := by
  unfold vM
  split
  · exact ⟨0, by decide, rfl⟩
  · obtain ⟨m, h1, h2⟩ := sm_nI (F := mF wi he mi K (lsU (Wy a b gr f hi (sN (wi p)) l) 8) p) (B := 1) (fun q => by
      unfold mF
      split
      · exact ⟨1, by decide, rfl⟩
      · exact ⟨0, by decide, rfl⟩) 100
    exact ⟨m, by omega, h2⟩
theorem minC {a b f N K : Nat} {gr wi lp row yl he mi : Nat → Int32} (S : okSc a b f N gr wi lp row yl) (hN : okN K he mi row) (hi : Int32) {l p : Nat} (hl : l ≤ 99) (hp : p < 6) (marks lasting : Nat → Int32) (tH : Nat → Int64) : ∃ mk la tH', f_X9_minutesThatFit (nI a) (nI b) (nI f) gr wi (nI K) he mi marks lasting tH (nI p) (nI l) hi = some (vM a b f K gr wi he mi hi l p, mk, la, tH') := by
  obtain ⟨ha1, ha, hb1, hb, hf, hG, hR, hwin, hLw⟩ := S
  have hK := hN.1
  unfold f_X9_minutesThatFit vM
  rw [windowOf_nI wi hp, bN]
  by_cases z : wi p = -1
  · rw [if_pos z, if_pos z]
    exact ⟨_, _, _, rfl⟩
  · rw [if_neg z, if_neg z]
    obtain ⟨c, hc, ec, -⟩ := (hwin p hp).2.resolve_left z
    have h36 := mul_le36 ha hb
    rw [ec, sN_nI (by omega)]
    obtain ⟨mk, la, s1, hv⟩ := spreadC hG ha1 ha hb hf hi hc hl marks lasting
    have hW := okWy ha hb gr f hi hc hl
    obtain ⟨tH', s2, hH⟩ := listenC ha hb hW hv tH
    have hbb := lsU_b ha hb hW
    refine ⟨mk, la, tH', ?_⟩
    have key : ∀ (d k n : Nat), k + d = 100 → d < n → f_X3_minutesFor_L6 tH' wi (nI K) he mi (nI p) n (sm (mF wi he mi K (lsU (Wy a b gr f hi c l) 8) p) k) (nI k) = some (sm (mF wi he mi K (lsU (Wy a b gr f hi c l) 8) p) 100) := by
      intro d
      induction d with
      | zero =>
        intro k n hk hn
        obtain ⟨n, rfl⟩ : ∃ m, n = m + 1 := ⟨n - 1, by omega⟩
        have : k = 100 := by omega
        subst this
        rw [f_X3_minutesFor_L6, if_pos (show (100 : Int32) ≤ nI 100 by decide)]
      | succ d ih =>
        intro k n hk hn
        obtain ⟨n, rfl⟩ : ∃ m, n = m + 1 := ⟨n - 1, by omega⟩
        have ih' := ih (k + 1) n (by omega) (by omega)
        rw [sm] at ih'
        have hft : f_X3_fits tH' wi (nI K) he mi (nI p) (nI k) = some (mF wi he mi K (lsU (Wy a b gr f hi c l) 8) p k) := fits_L ha hb (fun p hp => (hwin p hp).2) (fun e he => ⟨(hbb e he).2.2.2.2.2.1, (hbb e he).2.1⟩) hH hN hp (nI k) K 0 FU (Nat.zero_add _) (by have : FU = 5000 := rfl; omega)
        rw [f_X3_minutesFor_L6, if_neg (show ¬ (100 : Int32) ≤ nI k from nI_ge (b := 100) (by omega) (by decide)), hft, bN]
        unfold f_X3_minutesFor_J28
        rw [st1]
        have h01 : mF wi he mi K (lsU (Wy a b gr f hi c l) 8) p k = 0 ∨ mF wi he mi K (lsU (Wy a b gr f hi c l) 8) p k = 1 := by
          unfold mF
          split
          · exact Or.inr rfl
          · exact Or.inl rfl
        rcases h01 with y | y
        · rw [y, add_0'] at ih'
          rw [y, i00, ih']
        · rw [y] at ih'
          rw [y, i10, ih']
    rw [s1, bN, s2, bN]
    have hk := key 100 0 FU (by decide) (by decide)
    have hk' : f_X3_minutesFor tH' wi (nI K) he mi (nI p) = some (sm (mF wi he mi K (lsU (Wy a b gr f hi c l) 8) p) 100) := hk
    rw [hk', bN]
theorem minM {a b f N K : Nat} {gr wi lp row yl he mi : Nat → Int32} (S : okSc a b f N gr wi lp row yl) (hN : okN K he mi row) (hi : Int32) {l p : Nat} (hl1 : 1 ≤ l) (hl : l ≤ 99) (hp : p < 6) (m0 : Int32) (ca0 ti0 lo0 tw0 wa0 : Nat → Int32) : ∃ m ca ti lo tw wa, f_X10_minutesOf (nI f) m0 row ca0 ti0 lo0 tw0 wa0 (nI p) (nI l) hi = some (vM a b f K gr wi he mi hi l p, m, ca, ti, lo, tw, wa) := by
  obtain ⟨ha1, ha, hb1, hb, hf, hG, hR, hwin, hLw⟩ := S
  have hK := hN.1
  unfold f_X10_minutesOf vM
  simp only [show (38 : Int32) + nI p = nI (38 + p) from nI_add 38 p, gd_t (ib_nI (show 38 + p < 558 by omega) (show 558 < 2 ^ 31 by decide)), nI_clamp (show 38 + p < 2 ^ 31 by omega), (hwin p hp).1]
  by_cases z : wi p = -1
  · simp only [if_pos z]
    exact ⟨_, _, _, _, _, _, rfl⟩
  · simp only [if_neg z]
    obtain ⟨c, hc, ec, -⟩ := (hwin p hp).2.resolve_left z
    have h36 := mul_le36 ha hb
    rw [ec, sN_nI (by omega)]
    obtain ⟨⟨m, ca, ti, lo, tw, wa⟩, s2, hLay⟩ := laySoundsM hG hR ha1 ha hb1 hb hf hi hc hl1 hl m0 ca0 ti0 lo0 tw0 wa0
    have hW := okWy ha hb gr f hi hc hl
    have hbb := lsU_b ha hb hW
    refine ⟨m, ca, ti, lo, tw, wa, ?_⟩
    have key : ∀ (d k n : Nat), k + d = 100 → d < n → f_X10_minutesOf_L36 m row ca ti lo tw wa (nI p) n (sm (mF wi he mi K (lsU (Wy a b gr f hi c l) 8) p) k) (nI k) = some (sm (mF wi he mi K (lsU (Wy a b gr f hi c l) 8) p) 100, m, ca, ti, lo, tw, wa) := by
      intro d
      induction d with
      | zero =>
        intro k n hk hn
        obtain ⟨n, rfl⟩ : ∃ m, n = m + 1 := ⟨n - 1, by omega⟩
        have : k = 100 := by omega
        subst this
        rw [f_X10_minutesOf_L36, if_pos (show (100 : Int32) ≤ nI 100 by decide)]
      | succ d ih =>
        intro k n hk hn
        obtain ⟨n, rfl⟩ : ∃ m, n = m + 1 := ⟨n - 1, by omega⟩
        have hft := fits_LM ha hb hwin hLay (lsU480 hW) (fun e he => (hbb e he).1) hN hp (sm (mF wi he mi K (lsU (Wy a b gr f hi c l) 8) p) k) (nI k) (f_X10_minutesOf_L36 m row ca ti lo tw wa (nI p) n) K 0 FU (Nat.zero_add _) (by have : FU = 5000 := rfl; omega)
        have hft' : f_X10_minutesOf_L49 (f_X10_minutesOf_L36 m row ca ti lo tw wa (nI p) n) m row ca ti (nI p) (sm (mF wi he mi K (lsU (Wy a b gr f hi c l) 8) p) k) (nI k) FU 1 0 = _ := hft
        rw [f_X10_minutesOf_L36, if_neg (show ¬ (100 : Int32) ≤ nI k from nI_ge (b := 100) (by omega) (by decide)), hft', st1]
        exact ih (k + 1) n (by omega) (by omega)
    rw [s2, bN]
    exact key 100 0 FU (by decide) (by decide)
theorem mod_half {b r : Nat} (hr : 0 < r) (hrb : r < b) : 2 * (b % r) < b := by
  have h1 := Nat.mod_lt b hr
  have h2 := Nat.div_add_mod b r
  have h3 : 1 ≤ b / r := (Nat.one_le_div_iff hr).mpr (by omega)
  have h4 : r * 1 ≤ r * (b / r) := Nat.mul_le_mul_left r h3
  omega
theorem gcd_both : ∀ (k a b i n1 n2 : Nat), a < 2 ^ 31 → b < 2 ^ 31 → b < 2 ^ k → i + 2 * k + 1 ≤ 64 → 2 * k + 1 ≤ n1 → 2 * k + 1 ≤ n2 → f_X9_commonDivisor_L7 n1 (nI a) (nI b) (nI i) = some (nI (Nat.gcd a b)) ∧ f_X10_divisor_L4 n2 (nI a) (nI b) = some (nI (Nat.gcd a b)) := by
  have z0 : ∀ (a i n1 n2 : Nat), i < 64 → f_X9_commonDivisor_L7 (n1 + 1) (nI a) (nI 0) (nI i) = some (nI (Nat.gcd a 0)) ∧ f_X10_divisor_L4 (n2 + 1) (nI a) (nI 0) = some (nI (Nat.gcd a 0)) := fun a i n1 n2 hi => by
    rw [f_X9_commonDivisor_L7, if_neg (show ¬ (64 : Int32) ≤ nI i from nI_ge (b := 64) hi (by decide)), if_pos (show nI 0 = 0 from rfl), f_X10_divisor_L4, if_pos (show nI 0 = 0 from rfl), Nat.gcd_zero_right]
    exact ⟨rfl, rfl⟩
  have s1 : ∀ (a b i n1 n2 : Nat), a < 2 ^ 31 → b < 2 ^ 31 → 0 < b → i < 64 → f_X9_commonDivisor_L7 (n1 + 1) (nI a) (nI b) (nI i) = f_X9_commonDivisor_L7 n1 (nI b) (nI (a % b)) (nI (i + 1)) ∧ f_X10_divisor_L4 (n2 + 1) (nI a) (nI b) = f_X10_divisor_L4 n2 (nI b) (nI (a % b)) ∧ Nat.gcd a b = Nat.gcd b (a % b) := fun a b i n1 n2 ha hb h0 hi => by
    have hne : ¬ nI b = 0 := nI_ne0 h0 hb
    rw [f_X9_commonDivisor_L7, if_neg (show ¬ (64 : Int32) ≤ nI i from nI_ge (b := 64) hi (by decide)), if_neg hne, gd_t hne, nI_rem ha hb, st1, f_X10_divisor_L4, if_neg hne, gd_t hne, nI_rem ha hb]
    refine ⟨rfl, rfl, ?_⟩
    rw [Nat.gcd_comm a b, Nat.gcd_rec b a, Nat.gcd_comm]
  intro k
  induction k with
  | zero =>
    intro a b i n1 n2 ha hb hbk hi hn1 hn2
    have : b = 0 := by omega
    subst this
    obtain ⟨n1, rfl⟩ : ∃ m, n1 = m + 1 := ⟨n1 - 1, by omega⟩
    obtain ⟨n2, rfl⟩ : ∃ m, n2 = m + 1 := ⟨n2 - 1, by omega⟩
    exact z0 a i n1 n2 (by omega)
  | succ k ih =>
    intro a b i n1 n2 ha hb hbk hi hn1 hn2
    obtain ⟨n1, rfl⟩ : ∃ m, n1 = m + 1 := ⟨n1 - 1, by omega⟩
    obtain ⟨n2, rfl⟩ : ∃ m, n2 = m + 1 := ⟨n2 - 1, by omega⟩
    by_cases hb0 : b = 0
    · subst hb0
      exact z0 a i n1 n2 (by omega)
    · obtain ⟨t1, t2, t3⟩ := s1 a b i n1 n2 ha hb (by omega) (by omega)
      have hlt : a % b < b := Nat.mod_lt a (by omega)
      rw [t1, t2, t3]
      obtain ⟨n1, rfl⟩ : ∃ m, n1 = m + 1 := ⟨n1 - 1, by omega⟩
      obtain ⟨n2, rfl⟩ : ∃ m, n2 = m + 1 := ⟨n2 - 1, by omega⟩
      by_cases hr0 : a % b = 0
      · rw [hr0]
        exact z0 b (i + 1) n1 n2 (by omega)
      · obtain ⟨t4, t5, t6⟩ := s1 b (a % b) (i + 1) n1 n2 hb (by omega) (by omega) (by omega)
        rw [t4, t5, t6]
        have hh := mod_half (show 0 < a % b by omega) hlt
        rw [Nat.pow_succ] at hbk
        exact ih (a % b) (b % (a % b)) (i + 1 + 1) n1 n2 (by omega) (by omega) (by omega) (by omega) (by omega) (by omega)
theorem gcdC {a b : Nat} (ha : a ≤ 1000) (hb : b ≤ 1000) : f_X9_commonDivisor (nI a) (nI b) = some (nI (Nat.gcd a b)) ∧ f_X10_divisor (nI a) (nI b) = some (nI (Nat.gcd a b)) := gcd_both 10 a b 0 FU FU (by omega) (by omega) (by omega) (by decide) (by decide) (by decide)
theorem whoC_L {a b f N K : Nat} {gr wi lp row yl he mi : Nat → Int32} (S : okSc a b f N gr wi lp row yl) (hN : okN K he mi row) (hi x4 x5 : Int32) {l : Nat} (hl : l ≤ 99) : ∀ (d k n : Nat) (marks lasting : Nat → Int32) (tH : Nat → Int64), k + d = 6 → d < n → ∃ mk la tH', f_X9_who_L70 (nI a) (nI b) (nI f) gr wi (nI K) he mi (nI l) hi x4 x5 n (sm (vM a b f K gr wi he mi hi l) k) (nI k) marks lasting tH = f_X9_who_J96 mk la tH' x4 x5 (sm (vM a b f K gr wi he mi hi l) 6) := by
  intro d
  induction d with
  | zero =>
    intro k n marks lasting tH hk hn
    obtain ⟨n, rfl⟩ : ∃ m, n = m + 1 := ⟨n - 1, by omega⟩
    have : k = 6 := by omega
    subst this
    exact ⟨marks, lasting, tH, by rw [f_X9_who_L70, if_pos (show (6 : Int32) ≤ nI 6 by decide)]⟩
  | succ d ih =>
    intro k n marks lasting tH hk hn
    obtain ⟨n, rfl⟩ : ∃ m, n = m + 1 := ⟨n - 1, by omega⟩
    obtain ⟨mk, la, tH', s1⟩ := minC S hN hi hl (show k < 6 by omega) marks lasting tH
    rw [f_X9_who_L70, if_neg (show ¬ (6 : Int32) ≤ nI k from nI_ge (b := 6) (by omega) (by decide)), s1, bN, st1]
    exact ih (k + 1) n mk la tH' (by omega) (by omega)
theorem whoM_L {a b f N K : Nat} {gr wi lp row yl he mi : Nat → Int32} (S : okSc a b f N gr wi lp row yl) (hN : okN K he mi row) (hi x4 : Int32) {l p : Nat} (hl1 : 1 ≤ l) (hl : l ≤ 99) (hp : p < 6) : ∀ (d k n : Nat) (own m : Int32) (ca ti lo tw wa : Nat → Int32), k + d = 6 → d < n → (p < k → own = vM a b f K gr wi he mi hi l p) → ∃ m' ca' ti' lo' tw' wa', f_X10_who_L36 (nI f) row (nI p) (nI l) hi x4 n own (sm (vM a b f K gr wi he mi hi l) k) (nI k) m ca ti lo tw wa = f_X10_who_J81 m' ca' ti' lo' tw' wa' x4 (vM a b f K gr wi he mi hi l p) (sm (vM a b f K gr wi he mi hi l) 6) := by
  intro d
  induction d with
  | zero =>
    intro k n own m ca ti lo tw wa hk hn ho
    obtain ⟨n, rfl⟩ : ∃ m, n = m + 1 := ⟨n - 1, by omega⟩
    have : k = 6 := by omega
    subst this
    exact ⟨m, ca, ti, lo, tw, wa, by rw [f_X10_who_L36, if_pos (show (6 : Int32) ≤ nI 6 by decide), ho hp]⟩
  | succ d ih =>
    intro k n own m ca ti lo tw wa hk hn ho
    obtain ⟨n, rfl⟩ : ∃ m, n = m + 1 := ⟨n - 1, by omega⟩
    obtain ⟨m', ca', ti', lo', tw', wa', s1⟩ := minM S hN hi hl1 hl (show k < 6 by omega) m ca ti lo tw wa
    rw [f_X10_who_L36, if_neg (show ¬ (6 : Int32) ≤ nI k from nI_ge (b := 6) (by omega) (by decide)), s1, bN]
    unfold f_X10_who_J66
    rw [st1]
    by_cases q : k = p
    · rw [if_pos (by rw [q])]
      exact ih (k + 1) n _ m' ca' ti' lo' tw' wa' (by omega) (by omega) (fun _ => by rw [q])
    · rw [if_neg (fun z => q ((nI_eq (by omega) (by omega)).mp z))]
      exact ih (k + 1) n _ m' ca' ti' lo' tw' wa' (by omega) (by omega) (fun hpk => ho (by omega))
theorem isHour0 : f_X10_isHour 0 = some 1 := by decide
set_option maxRecDepth 20000 in
theorem ob_who : Ob_who RR := by
  intro X XA XL Y YA x1 x2 x3 x4 hx h
  obtain ⟨a, b, f, N, S, e5, e6, e7, y5, e8, y2, y3, y4, hnt⟩ := RR_sc2 h
  have hwin := S.2.2.2.2.2.2.2.1
  have h0 := h
  obtain ⟨ht, hcan, hlaw, ⟨b1, hcr, K, hK, n1, n2, n3⟩, hi1, hi2⟩ := h0
  simp only [Nat.zero_add] at n2
  have hN : okN K (XA 13) (XA 14) (YA 0) := ⟨hK, n2, n3⟩
  unfold f_X9_who f_X10_who f_X10_refuses
  rw [e5, e6, e7, y5, n1, in_02]
  rcases pcase x1 with ⟨p, hp, rfl, p1, p2⟩ | ⟨p1, p2⟩
  · rcases lcase x2 with ⟨l, hl1, hl, rfl, q1, q2⟩ | ⟨q1, q2⟩
    · by_cases w0 : x4 < 0
      · simp only [p1, p2, q1, q2, bN, i10, i00, isHour0, if_pos w0, if_neg (fun q : 0 ≤ x4 ∧ x4 ≤ 2 => absurd q.1 (Int32.not_le.mpr w0)), if_neg (show ¬ (0 : Int32) ≤ -3 by decide)]
        exact ⟨_, _, rfl, rfl, rfl, h⟩
      · by_cases w1 : x4 ≤ 2
        · simp only [p1, p2, q1, q2, bN, i10, isHour0, if_neg w0, if_pos w1, if_pos (show 0 ≤ x4 ∧ x4 ≤ 2 from ⟨Int32.not_lt.mp w0, w1⟩), windowOf_nI (XA 3) hp, show (38 : Int32) + nI p = nI (38 + p) from nI_add 38 p, gd_t (ib_nI (show 38 + p < 558 by omega) (show 558 < 2 ^ 31 by decide)), nI_clamp (show 38 + p < 2 ^ 31 by omega), (hwin p hp).1]
          by_cases z : XA 3 p = -1
          · simp only [if_pos z, bN, if_neg (show ¬ (0 : Int32) ≤ -4 by decide)]
            exact ⟨_, _, rfl, rfl, rfl, h⟩
          · obtain ⟨mk, la, tH', s1⟩ := minC S hN x3 hl hp (XA 35) (XA 36) XL
            obtain ⟨mk2, la2, tH2, s2⟩ := whoC_L S hN x3 x4 (vM a b f K (XA 2) (XA 3) (XA 13) (XA 14) x3 l p) hl 6 0 FU mk la tH' rfl (by decide)
            obtain ⟨m', ca', ti', lo', tw', wa', s3⟩ := whoM_L S hN x3 x4 hl1 hl hp 6 0 FU 0 (Y 12) (YA 6) (YA 7) (YA 8) (YA 9) (YA 10) rfl (by decide) (fun y => absurd y (Nat.not_lt_zero p))
            have s2' : f_X9_who_L70 (nI a) (nI b) (nI f) (XA 2) (XA 3) (nI K) (XA 13) (XA 14) (nI l) x3 x4 (vM a b f K (XA 2) (XA 3) (XA 13) (XA 14) x3 l p) FU 0 0 mk la tH' = _ := s2
            have s3' : f_X10_who_L36 (nI f) (YA 0) (nI p) (nI l) x3 x4 FU 0 0 0 (Y 12) (YA 6) (YA 7) (YA 8) (YA 9) (YA 10) = _ := s3
            simp only [if_neg z, bN, le00, s1, s2', s3']
            obtain ⟨v, hv, ev⟩ := vM_nI a b f K (XA 2) (XA 3) (XA 13) (XA 14) x3 l p
            obtain ⟨u, hu, eu⟩ := sm_nI (F := vM a b f K (XA 2) (XA 3) (XA 13) (XA 14) x3 l) (B := 100) (fun q => vM_nI a b f K (XA 2) (XA 3) (XA 13) (XA 14) x3 l q) 6
            rw [ev, eu]
            unfold f_X9_who_J96 f_X10_who_J81 f_X10_who_J92
            by_cases c2 : x4 = 2
            · simp only [if_pos c2]
              exact ⟨_, _, rfl, rfl, rfl, h⟩
            · simp only [if_neg c2]
              by_cases hu0 : u = 0
              · rw [if_neg (show ¬ (1 : Int32) ≤ nI u by rw [hu0]; decide), if_pos (show nI u = 0 by rw [hu0]; rfl)]
                exact ⟨_, _, rfl, rfl, rfl, h⟩
              · obtain ⟨d1, d2⟩ := gcdC (a := v) (b := u) (by omega) (by omega)
                have hg : 0 < Nat.gcd v u := Nat.gcd_pos_of_pos_right v (by omega)
                have hg2 : Nat.gcd v u ≤ u := Nat.gcd_le_right v (by omega)
                have hne : ¬ nI (Nat.gcd v u) = 0 := nI_ne0 hg (by omega)
                simp only [if_pos (show (1 : Int32) ≤ nI u from nI_le (a := 1) (by omega) (by omega)), if_neg (nI_ne0 (show 0 < u by omega) (show u < 2 ^ 31 by omega)), d1, d2, bN, if_pos (show (1 : Int32) ≤ nI (Nat.gcd v u) from nI_le (a := 1) hg (by omega)), gd_t hne]
                by_cases c0 : x4 = 0
                · simp only [if_pos c0]
                  exact ⟨_, _, rfl, rfl, rfl, h⟩
                · simp only [if_neg c0]
                  exact ⟨_, _, rfl, rfl, rfl, h⟩
        · simp only [p1, p2, q1, q2, bN, i10, i00, isHour0, if_neg w0, if_neg w1, if_neg (fun q : 0 ≤ x4 ∧ x4 ≤ 2 => w1 q.2), if_neg (show ¬ (0 : Int32) ≤ -3 by decide)]
          exact ⟨_, _, rfl, rfl, rfl, h⟩
    · simp only [p1, p2, q1, q2, bN, i10, i00, if_neg (show ¬ (0 : Int32) ≤ -3 by decide)]
      exact ⟨_, _, rfl, rfl, rfl, h⟩
  · simp only [p1, p2, bN, i00, if_neg (show ¬ (0 : Int32) ≤ -2 by decide)]
    exact ⟨_, _, rfl, rfl, rfl, h⟩
end M69
