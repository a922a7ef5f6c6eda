section M72
/-! the text: tokens -/
def sr (c : Nat) : Nat := if 97 ≤ c ∧ c ≤ 122 then 1 else if 48 ≤ c ∧ c ≤ 57 then 2 else if c = 59 then 3 else 4
theorem sr_C : ∀ c, c < 256 → f_X5_sortOf (nI c) = some (nI (sr c)) := by decide +kernel
theorem sr_M : ∀ c, c < 256 → f_X10_sort (nI c) = some (nI (if sr c ≤ 2 then sr c else 0)) := by decide +kernel
theorem sr_r (c : Nat) : 1 ≤ sr c ∧ sr c ≤ 4 := by
  unfold sr
  split
  · omega
  · split
    · omega
    · split <;> omega
theorem sr_1 (c : Nat) : sr c = 1 ↔ 97 ≤ c ∧ c ≤ 122 := by
  unfold sr
  split
  · simp; omega
  · split
    · simp; omega
    · split <;> simp <;> omega
theorem sr_3 (c : Nat) : sr c = 3 ↔ c = 59 := by
  unfold sr
  split
  · simp; omega
  · split
    · simp; omega
    · split
      · simp; omega
      · simp; omega
def okT (n : Nat) (bt : Nat → Nat) (xb yt : Nat → Int32) : Prop := n ≤ 200 ∧ ∀ i, i < n → xb i = nI (bt i) ∧ yt i = nI (bt i) ∧ bt i < 256
def skp (bt : Nat → Nat) : Nat → Nat → Nat
  | 0, p => p
  | d + 1, p => if bt p = 32 then skp bt d (p + 1) else p
def rn (bt : Nat → Nat) (s : Nat) : Nat → Nat → Nat
  | 0, p => p
  | d + 1, p => if sr (bt p) = s then rn bt s d (p + 1) else p
def tq (bt : Nat → Nat) (n p : Nat) : Nat := skp bt (n - p) p
def te (bt : Nat → Nat) (n p : Nat) : Nat := if tq bt n p = n then n else if sr (bt (tq bt n p)) ≤ 2 then rn bt (sr (bt (tq bt n p))) (n - (tq bt n p + 1)) (tq bt n p + 1) else tq bt n p + 1
def so (bt : Nat → Nat) (n p : Nat) : Nat := if tq bt n p = n then 0 else sr (bt (tq bt n p))
theorem skp_le (bt : Nat → Nat) : ∀ d p, p ≤ skp bt d p ∧ skp bt d p ≤ p + d := by
  intro d
  induction d with
  | zero => intro p; exact ⟨Nat.le_refl _, Nat.le_refl _⟩
  | succ d ih =>
    intro p
    rw [skp]
    split
    · have := ih (p + 1); omega
    · omega
theorem rn_le (bt : Nat → Nat) (s : Nat) : ∀ d p, p ≤ rn bt s d p ∧ rn bt s d p ≤ p + d := by
  intro d
  induction d with
  | zero => intro p; exact ⟨Nat.le_refl _, Nat.le_refl _⟩
  | succ d ih =>
    intro p
    rw [rn]
    split
    · have := ih (p + 1); omega
    · omega
theorem tq_le (bt : Nat → Nat) {n p : Nat} (h : p ≤ n) : p ≤ tq bt n p ∧ tq bt n p ≤ n := by
  have := skp_le bt (n - p) p
  unfold tq
  omega
theorem te_le (bt : Nat → Nat) {n p : Nat} (h : p ≤ n) : tq bt n p ≤ te bt n p ∧ te bt n p ≤ n ∧ (tq bt n p < n → tq bt n p < te bt n p) := by
  have h1 := tq_le bt h
  unfold te
  by_cases q : tq bt n p = n
  · rw [if_pos q]; omega
  · rw [if_neg q]
    by_cases z : sr (bt (tq bt n p)) ≤ 2
    · rw [if_pos z]
      have := rn_le bt (sr (bt (tq bt n p))) (n - (tq bt n p + 1)) (tq bt n p + 1)
      omega
    · rw [if_neg z]; omega
theorem byteAtC {n : Nat} {bt : Nat → Nat} {xb yt : Nat → Int32} (hT : okT n bt xb yt) {p : Nat} (hp : p < n) : f_X5_byteAt (nI n) xb (nI p) = some (nI (bt p)) := by
  have h200 := hT.1
  unfold f_X5_byteAt f_X7_byteAt
  rw [if_neg (nI_pos (by omega)), if_neg (nI_ge hp (by omega)), if_pos (show nI p < 200 from nI_lt (b := 200) (by omega) (by decide)), gd_t (ib_nI (show p < 200 by omega) (by decide)), bN, nI_clamp (by omega), (hT.2 p hp).1]
theorem byteAtE {n : Nat} (h200 : n ≤ 200) (xb : Nat → Int32) : f_X5_byteAt (nI n) xb (nI n) = some (-1) := by
  unfold f_X5_byteAt f_X7_byteAt
  rw [if_neg (nI_pos (by omega)), if_pos (nI_le (Nat.le_refl _) (by omega)), bN]
theorem nextC_L106 {n : Nat} {bt : Nat → Nat} {xb yt : Nat → Int32} (hT : okT n bt xb yt) {s : Nat} (hs1 : 1 ≤ s) (hs : s ≤ 2) (q : Nat) : ∀ (d p i fu : Nat), p + d = n → i + d < 200 → d < fu → f_X5_nextToken_L106 (nI s) (nI q) (nI n) xb fu (nI i) (nI p) = some (nI s, nI q, nI (rn bt s d p)) := by
  have h200 := hT.1
  intro d
  induction d with
  | zero =>
    intro p i fu hp hi hfu
    obtain ⟨fu, rfl⟩ : ∃ m, fu = m + 1 := ⟨fu - 1, by omega⟩
    have : p = n := by omega
    subst this
    rw [f_X5_nextToken_L106, if_neg (show ¬ (200 : Int32) ≤ nI i from nI_ge (b := 200) (by omega) (by decide)), byteAtE h200, bN, show f_X5_sortOf (-1) = some 0 from rfl, bN, if_neg (fun y : (0 : Int32) = nI s => absurd ((nI_eq (by decide) (by omega)).mp (show nI 0 = nI s from y)) (by omega))]
    rfl
  | succ d ih =>
    intro p i fu hp hi hfu
    obtain ⟨fu, rfl⟩ : ∃ m, fu = m + 1 := ⟨fu - 1, by omega⟩
    have hb := (hT.2 p (by omega)).2.2
    have hr := sr_r (bt p)
    rw [f_X5_nextToken_L106, if_neg (show ¬ (200 : Int32) ≤ nI i from nI_ge (b := 200) (by omega) (by decide)), byteAtC hT (show p < n by omega), bN, sr_C _ hb, bN, rn]
    by_cases z : sr (bt p) = s
    · rw [if_pos (by rw [z]), if_pos z, st1, st1]
      exact ih (p + 1) (i + 1) fu (by omega) (by omega) (by omega)
    · rw [if_neg (fun y => z ((nI_eq (by omega) (by omega)).mp y)), if_neg z]
theorem nextC_J46 {n : Nat} {bt : Nat → Nat} {xb yt : Nat → Int32} (hT : okT n bt xb yt) {p : Nat} (hp : p ≤ n) : f_X5_nextToken_J46 (nI (tq bt n p)) (nI n) xb = some (nI (so bt n p), nI (tq bt n p), nI (te bt n p)) := by
  have h200 := hT.1
  have hq := tq_le bt hp
  unfold f_X5_nextToken_J46 so te
  by_cases q : tq bt n p = n
  · rw [if_pos q, if_pos q, q, byteAtE h200, bN, show f_X5_sortOf (-1) = some 0 from rfl, bN, i00]
    rfl
  · have hlt : tq bt n p < n := by omega
    have hb := (hT.2 _ hlt).2.2
    have hr := sr_r (bt (tq bt n p))
    rw [if_neg q, if_neg q, byteAtC hT hlt, bN, sr_C _ hb, bN, if_neg (nI_ne0 (show 0 < sr (bt (tq bt n p)) by omega) (by omega))]
    unfold f_X5_nextToken_J104
    have L := fun (s : Nat) (h1 : 1 ≤ s) (h2 : s ≤ 2) => nextC_L106 hT h1 h2 (tq bt n p) (n - (tq bt n p + 1)) (tq bt n p + 1) 0 FU (by omega) (by omega) (by have : FU = 5000 := rfl; omega)
    rw [st1]
    rcases (show sr (bt (tq bt n p)) = 1 ∨ sr (bt (tq bt n p)) = 2 ∨ 3 ≤ sr (bt (tq bt n p)) by omega) with z | z | z
    · rw [z, if_pos (show nI 1 = 1 from rfl), if_pos (by decide)]
      exact L 1 (by decide) (by decide)
    · rw [z, if_neg (show ¬ nI 2 = 1 by decide), if_pos (show nI 2 = 2 from rfl), if_pos (by decide)]
      exact L 2 (by decide) (by decide)
    · rw [if_neg (fun y : nI (sr (bt (tq bt n p))) = 1 => absurd ((nI_eq (by omega) (by decide)).mp (show _ = nI 1 from y)) (by omega)), if_neg (fun y : nI (sr (bt (tq bt n p))) = 2 => absurd ((nI_eq (by omega) (by decide)).mp (show _ = nI 2 from y)) (by omega)), if_neg (by omega)]
theorem nextC {n : Nat} {bt : Nat → Nat} {xb yt : Nat → Int32} (hT : okT n bt xb yt) {p : Nat} (hp : p ≤ n) (s st : Int32) : f_X5_nextToken s st (nI p) (nI n) xb = some (nI (so bt n p), nI (tq bt n p), nI (te bt n p)) := by
  have h200 := hT.1
  have key : ∀ (d p i fu : Nat), p + d = n → i + d ≤ 200 → d < fu → f_X5_nextToken_L10 (nI n) xb fu (nI i) (nI p) = f_X5_nextToken_J46 (nI (skp bt d p)) (nI n) xb := by
    intro d
    induction d with
    | zero =>
      intro p i fu hp hi hfu
      obtain ⟨fu, rfl⟩ : ∃ m, fu = m + 1 := ⟨fu - 1, by omega⟩
      have : p = n := by omega
      subst this
      rw [f_X5_nextToken_L10, byteAtE h200, bN, if_neg (show ¬ (-1 : Int32) = 32 by decide), skp]
      split <;> rfl
    | succ d ih =>
      intro p i fu hp hi hfu
      obtain ⟨fu, rfl⟩ : ∃ m, fu = m + 1 := ⟨fu - 1, by omega⟩
      have hb := (hT.2 p (by omega)).2.2
      rw [f_X5_nextToken_L10, if_neg (show ¬ (200 : Int32) ≤ nI i from nI_ge (b := 200) (by omega) (by decide)), byteAtC hT (show p < n by omega), bN, skp]
      by_cases z : bt p = 32
      · rw [if_pos (show nI (bt p) = 32 by rw [z]; rfl), if_pos z, st1, st1]
        exact ih (p + 1) (i + 1) fu (by omega) (by omega) (by omega)
      · rw [if_neg (fun y : nI (bt p) = 32 => z ((nI_eq (by omega) (by decide)).mp (show _ = nI 32 from y))), if_neg z]
  have := key (n - p) p 0 FU (by omega) (by omega) (by have : FU = 5000 := rfl; omega)
  unfold f_X5_nextToken
  have this' : f_X5_nextToken_L10 (nI n) xb FU 0 (nI p) = f_X5_nextToken_J46 (nI (tq bt n p)) (nI n) xb := this
  rw [this']
  exact nextC_J46 hT hp
theorem tokM {n : Nat} {bt : Nat → Nat} {xb yt : Nat → Int32} (hT : okT n bt xb yt) {p : Nat} (hp : p ≤ n) (pl en : Int32) : f_X10_token (nI n) (nI p) pl en yt = some (nI (te bt n p), nI (tq bt n p), nI (te bt n p)) := by
  have h200 := hT.1
  have hq := tq_le bt hp
  have key : ∀ (d p fu : Nat), p + d = n → d < fu → f_X10_token_L0 (nI n) yt fu (nI p) = f_X10_token_J38 (nI n) (nI (skp bt d p)) yt := by
    intro d
    induction d with
    | zero =>
      intro p fu hp hfu
      obtain ⟨fu, rfl⟩ : ∃ m, fu = m + 1 := ⟨fu - 1, by omega⟩
      have : p = n := by omega
      subst this
      rw [f_X10_token_L0, if_pos (nI_le (Nat.le_refl _) (by omega))]
      rfl
    | succ d ih =>
      intro p fu hp hfu
      obtain ⟨fu, rfl⟩ : ∃ m, fu = m + 1 := ⟨fu - 1, by omega⟩
      obtain ⟨-, hy, hb⟩ := hT.2 p (by omega)
      rw [f_X10_token_L0, if_neg (nI_ge (show p < n by omega) (by omega)), gd_t (ib_nI (show p < 200 by omega) (by decide)), nI_clamp (by omega), hy, skp, st1]
      by_cases z : bt p = 32
      · rw [if_pos (show nI (bt p) = 32 by rw [z]; rfl), if_pos z]
        exact ih (p + 1) fu (by omega) (by omega)
      · rw [if_neg (fun y : nI (bt p) = 32 => z ((nI_eq (by omega) (by decide)).mp (show _ = nI 32 from y))), if_neg z]
  have h1 := key (n - p) p FU (by omega) (by have : FU = 5000 := rfl; omega)
  unfold f_X10_token
  rw [h1]
  show f_X10_token_J38 (nI n) (nI (tq bt n p)) yt = _
  unfold f_X10_token_J38 f_X10_token_J67 te
  by_cases q : tq bt n p = n
  · rw [q, if_pos (nI_le (Nat.le_refl _) (by omega)), if_pos rfl, add_0']
    have : f_X10_token_L71 (nI n) (nI n) yt (4999 + 1) (nI n) = some (nI n, nI n, nI n) := by
      rw [f_X10_token_L71, if_pos (nI_le (Nat.le_refl _) (by omega))]
      rfl
    exact this
  · have hlt : tq bt n p < n := by omega
    obtain ⟨-, hy, hb⟩ := hT.2 _ hlt
    have hr := sr_r (bt (tq bt n p))
    rw [if_neg (nI_ge hlt (by omega)), if_neg q, st1]
    by_cases z : sr (bt (tq bt n p)) ≤ 2
    · rw [if_pos z]
      have L : ∀ (d p' fu : Nat), p' + d = n → d < fu → f_X10_token_L71 (nI n) (nI (tq bt n p)) yt fu (nI p') = some (nI (rn bt (sr (bt (tq bt n p))) d p'), nI (tq bt n p), nI (rn bt (sr (bt (tq bt n p))) d p')) := by
        intro d
        induction d with
        | zero =>
          intro p' fu hp' hfu
          obtain ⟨fu, rfl⟩ : ∃ m, fu = m + 1 := ⟨fu - 1, by omega⟩
          have : p' = n := by omega
          subst this
          rw [f_X10_token_L71, if_pos (nI_le (Nat.le_refl _) (by omega))]
          rfl
        | succ d ih =>
          intro p' fu hp' hfu
          obtain ⟨fu, rfl⟩ : ∃ m, fu = m + 1 := ⟨fu - 1, by omega⟩
          obtain ⟨-, hy', hb'⟩ := hT.2 p' (by omega)
          have hr' := sr_r (bt p')
          rw [f_X10_token_L71, if_neg (nI_ge (show p' < n by omega) (by omega)), rn]
          unfold f_X10_token_J137
          simp only [gd_t (ib_nI (show tq bt n p < 200 by omega) (show 200 < 2 ^ 31 by decide)), gd_t (ib_nI (show p' < 200 by omega) (show 200 < 2 ^ 31 by decide)), nI_clamp (show tq bt n p < 2 ^ 31 by omega), nI_clamp (show p' < 2 ^ 31 by omega), hy, hy', sr_M _ hb, sr_M _ hb', bN, if_pos z, if_neg (nI_nle (show 0 < sr (bt (tq bt n p)) by omega) (by omega)), st1]
          by_cases w : sr (bt p') = sr (bt (tq bt n p))
          · rw [w, if_pos z, if_pos rfl, if_pos rfl]
            exact ih (p' + 1) fu (by omega) (by omega)
          · have hne : ¬ nI (if sr (bt p') ≤ 2 then sr (bt p') else 0) = nI (sr (bt (tq bt n p))) := by
              intro y
              by_cases v : sr (bt p') ≤ 2
              · rw [if_pos v] at y
                exact w ((nI_eq (by omega) (by omega)).mp y)
              · rw [if_neg v] at y
                have := (nI_eq (by omega) (by omega)).mp y
                omega
            rw [if_neg hne, if_neg w]
      exact L (n - (tq bt n p + 1)) (tq bt n p + 1) FU (by omega) (by have : FU = 5000 := rfl; omega)
    · rw [if_neg z]
      have : f_X10_token_L71 (nI n) (nI (tq bt n p)) yt (4999 + 1) (nI (tq bt n p + 1)) = some (nI (tq bt n p + 1), nI (tq bt n p), nI (tq bt n p + 1)) := by
        rw [f_X10_token_L71]
        unfold f_X10_token_J137
        simp only [gd_t (ib_nI (show tq bt n p < 200 by omega) (show 200 < 2 ^ 31 by decide)), nI_clamp (show tq bt n p < 2 ^ 31 by omega), hy, sr_M _ hb, bN, if_neg z, if_pos (show nI 0 ≤ 0 by decide)]
        split <;> rfl
      exact this
end M72
