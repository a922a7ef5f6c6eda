section M73
/-! numbers, letters, words -/
def vl (bt : Nat → Nat) : Nat → Nat → Int32 → Int32
  | 0, _, v => v
  | d + 1, p, v => vl bt d (p + 1) (v * 10 + nI (bt p) - 48)
def nm (bt : Nat → Nat) (n p : Nat) : Int32 := if so bt n p = 2 ∧ te bt n p - tq bt n p ≤ 2 then vl bt (te bt n p - tq bt n p) (tq bt n p) 0 else -1
def lt' (bt : Nat → Nat) (n p : Nat) : Int32 := if so bt n p = 1 ∧ te bt n p - tq bt n p = 1 then nI (bt (tq bt n p)) - 97 else -1
theorem so_r (bt : Nat → Nat) (n p : Nat) : so bt n p ≤ 4 := by
  unfold so
  split
  · omega
  · exact (sr_r _).2
theorem numC {n : Nat} {bt : Nat → Nat} {xb yt : Nat → Int32} (hT : okT n bt xb yt) {p : Nat} (hp : p ≤ n) : f_X5_numberTold (nI (so bt n p)) (nI (tq bt n p)) (nI (te bt n p)) (nI n) xb = some (nm bt n p) := by
  have h200 := hT.1
  have hq := tq_le bt hp
  have he := te_le bt hp
  have hs := so_r bt n p
  unfold f_X5_numberTold nm
  rw [nI_sub' he.1]
  by_cases z : so bt n p = 2
  · rw [if_pos (show nI (so bt n p) = 2 by rw [z]; rfl)]
    by_cases y : te bt n p - tq bt n p ≤ 2
    · rw [if_pos (show nI (te bt n p - tq bt n p) ≤ 2 from nI_le (b := 2) y (by decide)), if_pos ⟨z, y⟩]
      have key : ∀ (d p' fu : Nat) (v : Int32), p' + d = te bt n p → d < fu → f_X5_numberTold_L30 (nI (te bt n p)) (nI n) xb fu v (nI p') = some (vl bt d p' v) := by
        intro d
        induction d with
        | zero =>
          intro p' fu v hp' hfu
          obtain ⟨fu, rfl⟩ : ∃ m, fu = m + 1 := ⟨fu - 1, by omega⟩
          rw [f_X5_numberTold_L30, if_pos (nI_le (by omega) (by omega))]
          rfl
        | succ d ih =>
          intro p' fu v hp' hfu
          obtain ⟨fu, rfl⟩ : ∃ m, fu = m + 1 := ⟨fu - 1, by omega⟩
          rw [f_X5_numberTold_L30, if_neg (nI_ge (show p' < te bt n p by omega) (by omega)), byteAtC hT (show p' < n by omega), bN, st1]
          exact ih (p' + 1) fu _ (by omega) (by omega)
      exact key _ _ FU 0 (by omega) (by have : FU = 5000 := rfl; omega)
    · rw [if_neg (fun w : nI (te bt n p - tq bt n p) ≤ 2 => y ((nI_leI (by omega) (by decide)).mp (show _ ≤ nI 2 from w))), if_neg (fun w => y w.2)]
  · rw [if_neg (fun w : nI (so bt n p) = 2 => z ((nI_eq (by omega) (by decide)).mp (show _ = nI 2 from w))), if_neg (fun w => z w.1)]
theorem letC {n : Nat} {bt : Nat → Nat} {xb yt : Nat → Int32} (hT : okT n bt xb yt) {p : Nat} (hp : p ≤ n) : f_X5_letterTold (nI (so bt n p)) (nI (tq bt n p)) (nI (te bt n p)) (nI n) xb = some (lt' bt n p) := by
  have h200 := hT.1
  have hq := tq_le bt hp
  have he := te_le bt hp
  have hs := so_r bt n p
  unfold f_X5_letterTold lt'
  rw [nI_sub' he.1]
  by_cases z : so bt n p = 1
  · rw [if_pos (show nI (so bt n p) = 1 by rw [z]; rfl)]
    by_cases y : te bt n p - tq bt n p = 1
    · rw [if_pos (show nI (te bt n p - tq bt n p) = 1 by rw [y]; rfl), if_pos ⟨z, y⟩, byteAtC hT (show tq bt n p < n by omega), bN]
    · rw [if_neg (fun w : nI (te bt n p - tq bt n p) = 1 => y ((nI_eq (by omega) (by decide)).mp (show _ = nI 1 from w))), if_neg (fun w => y w.2)]
  · rw [if_neg (fun w : nI (so bt n p) = 1 => z ((nI_eq (by omega) (by decide)).mp (show _ = nI 1 from w))), if_neg (fun w => z w.1)]
theorem ix4 (k j : Nat) : 4 * nI k + 1 + nI j = nI (4 * k + 1 + j) := by
  rw [show (4 : Int32) = nI 4 from rfl, nI_mul, st1, nI_add]
theorem readsM {n : Nat} {bt : Nat → Nat} {xb yt : Nat → Int32} (hT : okT n bt xb yt) {p : Nat} (hp : p ≤ n) {k j : Nat} (hk : k ≤ 9) (hj : j ≤ 2) (rd : Nat → Int32) {lo hi : Int32} (hlo : 0 ≤ lo) : f_X10_reads (nI n) (nI k) (nI (te bt n p)) (nI (tq bt n p)) (nI (te bt n p)) yt rd (nI j) lo hi = if lo ≤ nm bt n p ∧ nm bt n p ≤ hi then some (1, nI (te bt n (te bt n p)), nI (tq bt n (te bt n p)), nI (te bt n (te bt n p)), upd rd (4 * k + 1 + j) (nm bt n p)) else some (0, nI (te bt n p), nI (tq bt n p), nI (te bt n p), rd) := by
  have h200 := hT.1
  have hq := tq_le bt hp
  have he := te_le bt hp
  have hm1 : ¬ (lo ≤ -1 ∧ (-1 : Int32) ≤ hi) := fun w => absurd (Int32.le_trans hlo w.1) (by decide)
  unfold f_X10_reads
  by_cases q : tq bt n p = n
  · have e1 : nm bt n p = -1 := by
      unfold nm so
      rw [if_pos q, if_neg (fun w => absurd w.1 (by decide))]
    rw [if_pos (by rw [q]), e1, if_neg hm1]
  · have hlt : tq bt n p < n := by omega
    obtain ⟨-, hy, hb⟩ := hT.2 _ hlt
    have hr := sr_r (bt (tq bt n p))
    have eso : so bt n p = sr (bt (tq bt n p)) := if_neg q
    rw [if_neg (fun w => q ((nI_eq (by omega) (by omega)).mp w)), gd_t (ib_nI (show tq bt n p < 200 by omega) (by decide)), nI_clamp (by omega), hy, sr_M _ hb, bN, nI_sub' he.1]
    by_cases z : sr (bt (tq bt n p)) = 2
    · rw [z, if_pos (show nI (if 2 ≤ 2 then 2 else 0) = 2 from rfl)]
      by_cases y : te bt n p - tq bt n p ≤ 2
      · rw [if_pos (show nI (te bt n p - tq bt n p) ≤ 2 from nI_le (b := 2) y (by decide))]
        have key : ∀ (d p' fu : Nat) (v : Int32), p' + d = te bt n p → d < fu → f_X10_reads_L51 (nI n) (nI k) (nI (te bt n p)) (nI (tq bt n p)) (nI (te bt n p)) yt rd (nI j) lo hi fu v (nI p') = f_X10_reads_J84 (nI n) (nI k) (nI (te bt n p)) (nI (tq bt n p)) (nI (te bt n p)) yt rd (nI j) lo hi (vl bt d p' v) := by
          intro d
          induction d with
          | zero =>
            intro p' fu v hp' hfu
            obtain ⟨fu, rfl⟩ : ∃ m, fu = m + 1 := ⟨fu - 1, by omega⟩
            rw [f_X10_reads_L51, if_pos (nI_le (by omega) (by omega))]
            rfl
          | succ d ih =>
            intro p' fu v hp' hfu
            obtain ⟨fu, rfl⟩ : ∃ m, fu = m + 1 := ⟨fu - 1, by omega⟩
            rw [f_X10_reads_L51, if_neg (nI_ge (show p' < te bt n p by omega) (by omega)), gd_t (ib_nI (show p' < 200 by omega) (by decide)), nI_clamp (by omega), (hT.2 p' (by omega)).2.1, st1, Int32.mul_comm 10 v]
            exact ih (p' + 1) fu _ (by omega) (by omega)
        have hk1 := key (te bt n p - tq bt n p) (tq bt n p) FU 0 (by omega) (by have : FU = 5000 := rfl; omega)
        have e1 : nm bt n p = vl bt (te bt n p - tq bt n p) (tq bt n p) 0 := if_pos ⟨by rw [eso, z], y⟩
        rw [hk1, ← e1]
        unfold f_X10_reads_J84
        rw [in_32, bN, ix4]
        by_cases w : lo ≤ nm bt n p ∧ nm bt n p ≤ hi
        · rw [if_pos w, if_pos w, i10, gd_t (ib_nI (show 4 * k + 1 + j < 40 by omega) (by decide)), tokM hT he.2.1, bN, nI_clamp (by omega)]
        · rw [if_neg w, if_neg w, i00]
      · have e1 : nm bt n p = -1 := if_neg (fun w => y w.2)
        rw [if_neg (fun w : nI (te bt n p - tq bt n p) ≤ 2 => y ((nI_leI (by omega) (by decide)).mp (show _ ≤ nI 2 from w))), e1, if_neg hm1]
    · have e1 : nm bt n p = -1 := if_neg (fun w => z (by rw [← eso]; exact w.1))
      have hne : ¬ nI (if sr (bt (tq bt n p)) ≤ 2 then sr (bt (tq bt n p)) else 0) = 2 := by
        intro w
        by_cases v : sr (bt (tq bt n p)) ≤ 2
        · rw [if_pos v] at w
          exact z ((nI_eq (by omega) (by decide)).mp (show _ = nI 2 from w))
        · rw [if_neg v] at w
          exact absurd w (by decide)
      rw [if_neg hne, e1, if_neg hm1]
theorem in_97 (x : Int32) : f_X10_in x.toInt64 97 102 = some (if 97 ≤ x ∧ x ≤ 102 then 1 else 0) := in_32 x 97 102
theorem personM {n : Nat} {bt : Nat → Nat} {xb yt : Nat → Int32} (hT : okT n bt xb yt) {p : Nat} (hp : p ≤ n) {k : Nat} (hk : k ≤ 9) (rd : Nat → Int32) : f_X10_readsPerson (nI n) (nI k) (nI (te bt n p)) (nI (tq bt n p)) (nI (te bt n p)) yt rd = if 0 ≤ lt' bt n p ∧ lt' bt n p ≤ 5 then some (1, nI (te bt n (te bt n p)), nI (tq bt n (te bt n p)), nI (te bt n (te bt n p)), upd rd (4 * k + 1) (lt' bt n p)) else some (0, nI (te bt n p), nI (tq bt n p), nI (te bt n p), rd) := by
  have h200 := hT.1
  have hq := tq_le bt hp
  have he := te_le bt hp
  have hm1 : ¬ ((0 : Int32) ≤ -1 ∧ (-1 : Int32) ≤ 5) := by decide
  unfold f_X10_readsPerson
  by_cases q : tq bt n p = n
  · have e1 : lt' bt n p = -1 := by
      unfold lt' so
      rw [if_pos q, if_neg (fun w => absurd w.1 (by decide))]
    rw [if_pos (by rw [q]), e1, if_neg hm1]
  · have hlt : tq bt n p < n := by omega
    obtain ⟨-, hy, hb⟩ := hT.2 _ hlt
    have eso : so bt n p = sr (bt (tq bt n p)) := if_neg q
    rw [if_neg (fun w => q ((nI_eq (by omega) (by omega)).mp w)), nI_sub' he.1]
    by_cases y : te bt n p - tq bt n p = 1
    · have e40 : 4 * nI k + 1 = nI (4 * k + 1) := by rw [show (4 : Int32) = nI 4 from rfl, nI_mul, st1]
      rw [if_pos (show nI (te bt n p - tq bt n p) = 1 by rw [y]; rfl)]
      simp only [gd_t (ib_nI (show tq bt n p < 200 by omega) (show 200 < 2 ^ 31 by decide)), nI_clamp (show tq bt n p < 2 ^ 31 by omega), hy, in_97, bN, e40, gd_t (ib_nI (show 4 * k + 1 < 40 by omega) (show 40 < 2 ^ 31 by decide)), nI_clamp (show 4 * k + 1 < 2 ^ 31 by omega), tokM hT he.2.1]
      have hcond : (97 ≤ nI (bt (tq bt n p)) ∧ nI (bt (tq bt n p)) ≤ 102) ↔ (97 ≤ bt (tq bt n p) ∧ bt (tq bt n p) ≤ 102) := by
        constructor
        · intro w
          exact ⟨(nI_leI (by decide) (by omega)).mp (show nI 97 ≤ _ from w.1), (nI_leI (by omega) (by decide)).mp (show _ ≤ nI 102 from w.2)⟩
        · intro w
          exact ⟨nI_le (a := 97) w.1 (by omega), nI_le (b := 102) w.2 (by decide)⟩
      by_cases z : sr (bt (tq bt n p)) = 1
      · have hz := (sr_1 _).mp z
        have e1 : lt' bt n p = nI (bt (tq bt n p) - 97) := by
          unfold lt'
          rw [if_pos ⟨by rw [eso, z], y⟩]
          exact nI_sub' hz.1
        have e2 : nI (bt (tq bt n p)) - 97 = nI (bt (tq bt n p) - 97) := nI_sub' hz.1
        rw [e1, e2]
        by_cases w : bt (tq bt n p) ≤ 102
        · rw [if_pos (hcond.mpr ⟨hz.1, w⟩), i10, if_pos ⟨nI_pos' (by omega), nI_le (b := 5) (by omega) (by decide)⟩]
        · rw [if_neg (fun v => w (hcond.mp v).2), i00, if_neg (fun v => absurd ((nI_leI (by omega) (by decide)).mp (show _ ≤ nI 5 from v.2)) (by omega))]
      · have e1 : lt' bt n p = -1 := if_neg (fun w => z (by rw [← eso]; exact w.1))
        rw [if_neg (fun v : 97 ≤ nI (bt (tq bt n p)) ∧ nI (bt (tq bt n p)) ≤ 102 => z ((sr_1 _).mpr (by have := hcond.mp v; omega))), i00, e1, if_neg hm1]
    · have e1 : lt' bt n p = -1 := if_neg (fun w => y w.2)
      rw [if_neg (fun w : nI (te bt n p - tq bt n p) = 1 => y ((nI_eq (by omega) (by decide)).mp (show _ = nI 1 from w))), e1, if_neg hm1]
/-! words -/
def wd (k : Nat) : List Nat := ([[112, 108, 97, 110], [114, 111, 99, 107], [102, 108, 111, 111, 114], [97, 116], [103, 111, 110, 101], [108, 97, 119], [102, 114, 101, 101], [110, 105, 103, 104, 116], [102, 97, 100, 101], [87, 87], [88, 89, 83], [88, 89], [84, 88, 70], [84], [76, 68, 76], [72, 72, 78], [65], []] : List (List Nat)).getD k []
def wc (k : Nat) : Int32 := ([460176, 364018, 19381638, 641, 178663, 23596, 169542, 21241134, 167974] : List Int32).getD k 0
theorem wd_len : ∀ k, k < 18 → f_J0_length_8abf5 k = some (nI (wd k).length) := by decide +kernel
theorem wd_char : ∀ k, k < 18 → ∀ i, i < (wd k).length → f_J0_charAt_5068e k (nI i) = some (nI ((wd k).getD i 0)) := by decide +kernel
theorem wd_code : ∀ k, k < 9 → ∀ i, i < (wd k).length → 96 + ((wc k >>> ((5 * nI i) &&& 31)) &&& 31) = nI ((wd k).getD i 0) := by decide +kernel
theorem wd_b : ∀ k, k < 9 → 2 ≤ (wd k).length ∧ (wd k).length ≤ 5 ∧ ∀ i, i < (wd k).length → 97 ≤ (wd k).getD i 0 ∧ (wd k).getD i 0 ≤ 122 := by decide +kernel
def mtch (bt : Nat → Nat) (k q : Nat) : Nat → Nat → Bool
  | 0, _ => true
  | d + 1, i => decide (bt (q + i) = (wd k).getD i 0) && mtch bt k q d (i + 1)
def isW (bt : Nat → Nat) (q e k : Nat) : Bool := decide (e - q = (wd k).length) && mtch bt k q (wd k).length 0
theorem isWordC {n : Nat} {bt : Nat → Nat} {xb yt : Nat → Int32} (hT : okT n bt xb yt) {q e : Nat} (hqe : q ≤ e) (hen : e ≤ n) {k : Nat} (hk : k < 9) : f_X5_isWord (nI q) (nI e) (nI n) xb k = some (if isW bt q e k then 1 else 0) := by
  have h200 := hT.1
  obtain ⟨hl2, hl5, hch⟩ := wd_b k hk
  have hstr : k < strN := by
    have : strN = 18 := rfl
    omega
  unfold f_X5_isWord isW
  rw [gd_t hstr, wd_len k (by omega), bN, nI_sub' hqe]
  by_cases z : e - q = (wd k).length
  · rw [if_pos (by rw [z]), decide_eq_true z, Bool.true_and]
    have key : ∀ (d i fu : Nat), i + d = (wd k).length → d < fu → f_X5_isWord_L20 (nI q) (nI n) xb k fu (nI i) = some (if mtch bt k q d i then 1 else 0) := by
      intro d
      induction d with
      | zero =>
        intro i fu hi hfu
        obtain ⟨fu, rfl⟩ : ∃ m, fu = m + 1 := ⟨fu - 1, by omega⟩
        rw [f_X5_isWord_L20, gd_t hstr, wd_len k (by omega), bN, if_pos (nI_le (by omega) (by omega))]
        rfl
      | succ d ih =>
        intro i fu hi hfu
        obtain ⟨fu, rfl⟩ : ∃ m, fu = m + 1 := ⟨fu - 1, by omega⟩
        have hb := (hT.2 (q + i) (by omega)).2.2
        have hci := hch i (by omega)
        rw [f_X5_isWord_L20, gd_t hstr, wd_len k (by omega), bN, if_neg (nI_ge (show i < (wd k).length by omega) (by omega)), nI_add, byteAtC hT (show q + i < n by omega), bN, gd_t hstr, wd_char k (by omega) i (by omega), bN, st1, ih (i + 1) fu (by omega) (by omega), mtch]
        by_cases y : bt (q + i) = (wd k).getD i 0
        · rw [if_pos (by rw [y]), decide_eq_true y, Bool.true_and]
        · rw [if_neg (fun w => y ((nI_eq (by omega) (by omega)).mp w)), decide_eq_false y, Bool.false_and]
          rfl
    exact key (wd k).length 0 FU (Nat.zero_add _) (by have : FU = 5000 := rfl; omega)
  · rw [if_neg (fun w => z ((nI_eq (by omega) (by omega)).mp w)), decide_eq_false z, Bool.false_and]
    rfl
theorem isWordM {n : Nat} {bt : Nat → Nat} {xb yt : Nat → Int32} (hT : okT n bt xb yt) {q e : Nat} (hqe : q ≤ e) (hen : e ≤ n) {k : Nat} (hk : k < 9) : f_X10_isWord (nI q) (nI e) yt (wc k) (nI (wd k).length) = some (if isW bt q e k then 1 else 0) := by
  have h200 := hT.1
  obtain ⟨hl2, hl5, hch⟩ := wd_b k hk
  have zero : ∀ (fu : Nat) (x4 : Int32), f_X10_isWord_L22 (nI q) yt (wc k) (nI (wd k).length) (fu + 1) 0 x4 = some 0 := fun fu x4 => by
    rw [f_X10_isWord_L22, i00]
    rfl
  unfold f_X10_isWord f_X10_isWord_J18 isW
  rw [nI_sub' hqe]
  by_cases z : e - q = (wd k).length
  · rw [if_pos (by rw [z]), decide_eq_true z, Bool.true_and]
    have key : ∀ (d i fu : Nat), i + d = (wd k).length → d + 1 < fu → f_X10_isWord_L22 (nI q) yt (wc k) (nI (wd k).length) fu 1 (nI i) = some (if mtch bt k q d i then 1 else 0) := by
      intro d
      induction d with
      | zero =>
        intro i fu hi hfu
        obtain ⟨fu, rfl⟩ : ∃ m, fu = m + 1 := ⟨fu - 1, by omega⟩
        rw [f_X10_isWord_L22, i10, if_pos (nI_le (by omega) (by omega))]
        rfl
      | succ d ih =>
        intro i fu hi hfu
        obtain ⟨fu, rfl⟩ : ∃ m, fu = m + 1 := ⟨fu - 1, by omega⟩
        obtain ⟨fu, rfl⟩ : ∃ m, fu = m + 1 := ⟨fu - 1, by omega⟩
        obtain ⟨-, hy, hb⟩ := hT.2 (q + i) (by omega)
        have hci := hch i (by omega)
        rw [f_X10_isWord_L22, i10, if_neg (nI_ge (show i < (wd k).length by omega) (by omega)), wd_code k hk i (by omega), nI_add, gd_t (ib_nI (show q + i < 200 by omega) (by decide)), nI_clamp (by omega), hy]
        unfold f_X10_isWord_J64
        rw [st1, zero, ih (i + 1) (fu + 1) (by omega) (by omega), mtch]
        by_cases y : bt (q + i) = (wd k).getD i 0
        · rw [if_pos (by rw [y]), decide_eq_true y, Bool.true_and]
        · rw [if_neg (fun w => y ((nI_eq (by omega) (by omega)).mp w)), decide_eq_false y, Bool.false_and]
          rfl
    exact key (wd k).length 0 FU (Nat.zero_add _) (by have : FU = 5000 := rfl; omega)
  · rw [if_neg (fun w => z ((nI_eq (by omega) (by omega)).mp w)), decide_eq_false z, Bool.false_and]
    exact zero 4999 0
def fwd (bt : Nat → Nat) (q e : Nat) : Nat → Nat → Option Nat
  | 0, _ => none
  | d + 1, k => if isW bt q e k then some k else fwd bt q e d (k + 1)
def lk (bt : Nat → Nat) (n p : Nat) : Option Nat := fwd bt (tq bt n p) (te bt n p) 9 0
theorem fwd_lt (bt : Nat → Nat) (q e : Nat) : ∀ d k j, fwd bt q e d k = some j → j < k + d := by
  intro d
  induction d with
  | zero => intro k j h; cases h
  | succ d ih =>
    intro k j h
    rw [fwd] at h
    split at h
    · cases h; omega
    · have := ih _ _ h; omega
theorem isW_so {n : Nat} {bt : Nat → Nat} {xb yt : Nat → Int32} (hT : okT n bt xb yt) {p : Nat} (hp : p ≤ n) (h : ¬ so bt n p = 1) {k : Nat} (hk : k < 9) : isW bt (tq bt n p) (te bt n p) k = false := by
  obtain ⟨hl2, hl5, hch⟩ := wd_b k hk
  unfold isW
  by_cases q : tq bt n p = n
  · have : te bt n p = n := if_pos q
    rw [decide_eq_false (by omega), Bool.false_and]
  · have eso : so bt n p = sr (bt (tq bt n p)) := if_neg q
    have hc0 := hch 0 (by omega)
    obtain ⟨m, hm⟩ : ∃ m, (wd k).length = m + 1 := ⟨(wd k).length - 1, by omega⟩
    rw [hm, mtch]
    have : ¬ bt (tq bt n p + 0) = (wd k).getD 0 0 := fun w => h (by rw [eso]; exact (sr_1 _).mpr (by have w' : bt (tq bt n p) = (wd k).getD 0 0 := w; rw [w']; exact hc0))
    rw [decide_eq_false this, Bool.false_and, Bool.and_false]
def oC : Option Nat → Int32
  | none => 0
  | some k => nI (k + 1)
def oM : Option Nat → Int32
  | none => -1
  | some k => nI k
theorem lineC {n : Nat} {bt : Nat → Nat} {xb yt : Nat → Int32} (hT : okT n bt xb yt) {p : Nat} (hp : p ≤ n) : f_X5_lineOf (nI (so bt n p)) (nI (tq bt n p)) (nI (te bt n p)) (nI n) xb = some (oC (lk bt n p)) := by
  have he := te_le bt hp
  have hs := so_r bt n p
  have W := fun (k : Nat) (hk : k < 9) => isWordC hT he.1 he.2.1 hk
  unfold f_X5_lineOf lk
  by_cases z : so bt n p = 1
  · rw [if_pos (show nI (so bt n p) = 1 by rw [z]; rfl)]
    simp only [W 0 (by decide), W 1 (by decide), W 2 (by decide), W 3 (by decide), W 4 (by decide), W 5 (by decide), W 6 (by decide), W 7 (by decide), W 8 (by decide), bN, fwd]
    cases isW bt (tq bt n p) (te bt n p) 0 with
    | true => rfl
    | false =>
      cases isW bt (tq bt n p) (te bt n p) 1 with
      | true => rfl
      | false =>
        cases isW bt (tq bt n p) (te bt n p) 2 with
        | true => rfl
        | false =>
          cases isW bt (tq bt n p) (te bt n p) 3 with
          | true => rfl
          | false =>
            cases isW bt (tq bt n p) (te bt n p) 4 with
            | true => rfl
            | false =>
              cases isW bt (tq bt n p) (te bt n p) 5 with
              | true => rfl
              | false =>
                cases isW bt (tq bt n p) (te bt n p) 6 with
                | true => rfl
                | false =>
                  cases isW bt (tq bt n p) (te bt n p) 7 with
                  | true => rfl
                  | false =>
                    cases isW bt (tq bt n p) (te bt n p) 8 with
                    | true => rfl
                    | false => rfl
  · have F := fun (k : Nat) (hk : k < 9) => isW_so hT hp z hk
    rw [if_neg (fun w : nI (so bt n p) = 1 => z ((nI_eq (by omega) (by decide)).mp (show _ = nI 1 from w)))]
    simp only [fwd, F 0 (by decide), F 1 (by decide), F 2 (by decide), F 3 (by decide), F 4 (by decide), F 5 (by decide), F 6 (by decide), F 7 (by decide), F 8 (by decide)]
    rfl
theorem wordM {n : Nat} {bt : Nat → Nat} {xb yt : Nat → Int32} (hT : okT n bt xb yt) {p : Nat} (hp : p ≤ n) : f_X10_wordOf (nI (tq bt n p)) (nI (te bt n p)) yt = some (oM (lk bt n p)) := by
  have he := te_le bt hp
  have W := fun (k : Nat) (hk : k < 9) => isWordM hT he.1 he.2.1 hk
  have W0 : f_X10_isWord (nI (tq bt n p)) (nI (te bt n p)) yt 460176 4 = _ := W 0 (by decide)
  have W1 : f_X10_isWord (nI (tq bt n p)) (nI (te bt n p)) yt 364018 4 = _ := W 1 (by decide)
  have W2 : f_X10_isWord (nI (tq bt n p)) (nI (te bt n p)) yt 19381638 5 = _ := W 2 (by decide)
  have W3 : f_X10_isWord (nI (tq bt n p)) (nI (te bt n p)) yt 641 2 = _ := W 3 (by decide)
  have W4 : f_X10_isWord (nI (tq bt n p)) (nI (te bt n p)) yt 178663 4 = _ := W 4 (by decide)
  have W5 : f_X10_isWord (nI (tq bt n p)) (nI (te bt n p)) yt 23596 3 = _ := W 5 (by decide)
  have W6 : f_X10_isWord (nI (tq bt n p)) (nI (te bt n p)) yt 169542 4 = _ := W 6 (by decide)
  have W7 : f_X10_isWord (nI (tq bt n p)) (nI (te bt n p)) yt 21241134 5 = _ := W 7 (by decide)
  have W8 : f_X10_isWord (nI (tq bt n p)) (nI (te bt n p)) yt 167974 4 = _ := W 8 (by decide)
  unfold f_X10_wordOf lk
  simp only [W0, W1, W2, W3, W4, W5, W6, W7, W8, bN, fwd]
  cases isW bt (tq bt n p) (te bt n p) 0 with
  | true => rfl
  | false =>
    cases isW bt (tq bt n p) (te bt n p) 1 with
    | true => rfl
    | false =>
      cases isW bt (tq bt n p) (te bt n p) 2 with
      | true => rfl
      | false =>
        cases isW bt (tq bt n p) (te bt n p) 3 with
        | true => rfl
        | false =>
          cases isW bt (tq bt n p) (te bt n p) 4 with
          | true => rfl
          | false =>
            cases isW bt (tq bt n p) (te bt n p) 5 with
            | true => rfl
            | false =>
              cases isW bt (tq bt n p) (te bt n p) 6 with
              | true => rfl
              | false =>
                cases isW bt (tq bt n p) (te bt n p) 7 with
                | true => rfl
                | false =>
                  cases isW bt (tq bt n p) (te bt n p) 8 with
                  | true => rfl
                  | false => rfl
end M73
