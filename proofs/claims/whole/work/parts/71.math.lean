section M71
def okE (L : List (Nat × Nat × Nat × Nat × Nat)) : Prop := L.length ≤ 480 ∧ ∀ e ∈ L, e.1 < 36 ∧ e.2.1 ≤ 60 ∧ e.2.2.1 ≤ 99 ∧ e.2.2.2.1 ≤ 60
theorem okE_lsU {W : Nat → List (Option (Nat × Nat × Nat))} {a b : Nat} (ha : a ≤ 6) (hb : b ≤ 6) {gr : Nat → Int32} (hW : okW W a b gr) : okE (lsU W 8) := ⟨lsU480 hW, fun e he => by
  have := lsU_b ha hb hW e he
  exact ⟨this.1, this.2.1, this.2.2.1, this.2.2.2.1⟩⟩
theorem cd_lt {e : Nat × Nat × Nat × Nat × Nat} (h : e.1 < 36 ∧ e.2.1 ≤ 60 ∧ e.2.2.1 ≤ 99 ∧ e.2.2.2.1 ≤ 60) : cdN e < 20000000 ∧ cdN e / 524288 = e.1 := by
  unfold cdN
  omega
theorem codeOfM {L : List (Nat × Nat × Nat × Nat × Nat)} {m : Int32} {ca ti lo tw wa : Nat → Int32} (hL : LayS L (m, ca, ti, lo, tw, wa)) (hE : okE L) {k : Nat} {e : Nat × Nat × Nat × Nat × Nat} (he : L[k]? = some e) : f_X10_codeOf ca ti lo tw (nI k) = some (nI (cdN e)) := by
  have hk := lt_of_get he
  have h480 := hE.1
  obtain ⟨e1, e2, e3, e4, e5⟩ := hL.2 k e he
  have e1 : ca k = nI e.1 := e1
  have e2 : ti k = nI e.2.1 := e2
  have e3 : lo k = nI e.2.2.1 := e3
  have e4 : tw k = nI e.2.2.2.1 := e4
  unfold f_X10_codeOf cdN
  simp only [gd_t (ib_nI (show k < 480 by omega) (show 480 < 2 ^ 31 by decide)), nI_clamp (show k < 2 ^ 31 by omega), e1, e2, e3, e4, show (64 : Int32) = nI 64 from rfl, show (128 : Int32) = nI 128 from rfl, nI_mul, nI_add]
def Cds (L : List (Nat × Nat × Nat × Nat × Nat)) (codes : Nat → Int32) : Prop := ∀ k e, L[k]? = some e → codes k = nI (cdN e)
theorem sameOfM {L0 L : List (Nat × Nat × Nat × Nat × Nat)} (hE0 : okE L0) (hE : okE L) {ca ti lo tw wa codes : Nat → Int32} (hL : LayS L (nI L.length, ca, ti, lo, tw, wa)) (hC : Cds L0 codes) {x : Nat} (hx : x < 20000000) : f_X10_sameOf (nI L.length) (nI L0.length) ca ti lo tw codes (nI x) = some (if cn x L0 = cn x L then 1 else 0) := by
  have h480 := hE.1
  have h480' := hE0.1
  have c1 := cn_le x L0
  have c2 := cn_le x L
  have key2 : ∀ s0 : Int32, f_X10_sameOf_L44 (nI L.length) ca ti lo tw (nI x) s0 FU 0 0 = f_X10_sameOf_J77 s0 (nI (cn x L)) := fun s0 => by
    have := g_ref L (gCn x) (fun n s y => f_X10_sameOf_L44 (nI L.length) ca ti lo tw (nI x) s0 n (nI s) y) (fun s => f_X10_sameOf_J77 s0 (nI s)) (fun n s => by
      show f_X10_sameOf_L44 (nI L.length) ca ti lo tw (nI x) s0 (n + 1) (nI s) (nI L.length) = f_X10_sameOf_J77 s0 (nI s)
      rw [f_X10_sameOf_L44, if_pos (nI_le (Nat.le_refl _) (by omega))]) (fun n s k e he => by
      have hk := lt_of_get he
      have hb := (cd_lt (hE.2 e (mem_of_get he))).1
      show f_X10_sameOf_L44 (nI L.length) ca ti lo tw (nI x) s0 (n + 1) (nI s) (nI k) = f_X10_sameOf_L44 (nI L.length) ca ti lo tw (nI x) s0 n (nI (gCn x s e)) (nI (k + 1))
      rw [f_X10_sameOf_L44, if_neg (nI_ge hk (by omega)), codeOfM hL hE he, bN]
      unfold f_X10_sameOf_J69 gCn
      rw [st1]
      by_cases z : cdN e = x
      · rw [if_pos (by rw [z]), if_pos z, st1]
      · rw [if_neg (fun y => z ((nI_eq (by omega) (by omega)).mp y)), if_neg z, add_0', st1]) L.length 0 FU 0 (Nat.zero_add _) (by have : FU = 5000 := rfl; omega)
    have this' : f_X10_sameOf_L44 (nI L.length) ca ti lo tw (nI x) s0 FU 0 0 = f_X10_sameOf_J77 s0 (nI (L.foldl (gCn x) 0)) := this
    rw [this', cn_fold, Nat.zero_add]
  have key1 : f_X10_sameOf_L7 (nI L.length) (nI L0.length) ca ti lo tw codes (nI x) 0 FU 0 0 = f_X10_sameOf_J41 (nI L.length) ca ti lo tw (nI x) (nI (cn x L0)) 0 := by
    have := g_ref L0 (gCn x) (fun n s y => f_X10_sameOf_L7 (nI L.length) (nI L0.length) ca ti lo tw codes (nI x) 0 n (nI s) y) (fun s => f_X10_sameOf_J41 (nI L.length) ca ti lo tw (nI x) (nI s) 0) (fun n s => by
      show f_X10_sameOf_L7 (nI L.length) (nI L0.length) ca ti lo tw codes (nI x) 0 (n + 1) (nI s) (nI L0.length) = f_X10_sameOf_J41 (nI L.length) ca ti lo tw (nI x) (nI s) 0
      rw [f_X10_sameOf_L7, if_pos (nI_le (Nat.le_refl _) (by omega))]) (fun n s k e he => by
      have hk := lt_of_get he
      have hb := (cd_lt (hE0.2 e (mem_of_get he))).1
      show f_X10_sameOf_L7 (nI L.length) (nI L0.length) ca ti lo tw codes (nI x) 0 (n + 1) (nI s) (nI k) = f_X10_sameOf_L7 (nI L.length) (nI L0.length) ca ti lo tw codes (nI x) 0 n (nI (gCn x s e)) (nI (k + 1))
      rw [f_X10_sameOf_L7, if_neg (nI_ge hk (by omega))]
      unfold f_X10_sameOf_J33 gCn
      simp only [gd_t (ib_nI (show k < 480 by omega) (show 480 < 2 ^ 31 by decide)), nI_clamp (show k < 2 ^ 31 by omega), hC k e he, st1]
      by_cases z : cdN e = x
      · rw [if_pos (by rw [z]), if_pos z]
      · rw [if_neg (fun y => z ((nI_eq (by omega) (by omega)).mp y)), if_neg z, add_0']) L0.length 0 FU 0 (Nat.zero_add _) (by have : FU = 5000 := rfl; omega)
    have this' : f_X10_sameOf_L7 (nI L.length) (nI L0.length) ca ti lo tw codes (nI x) 0 FU 0 0 = f_X10_sameOf_J41 (nI L.length) ca ti lo tw (nI x) (nI (L0.foldl (gCn x) 0)) 0 := this
    rw [this', cn_fold, Nat.zero_add]
  unfold f_X10_sameOf
  rw [key1]
  unfold f_X10_sameOf_J41
  rw [key2]
  unfold f_X10_sameOf_J77
  by_cases z : cn x L0 = cn x L
  · rw [if_pos (by rw [z]), if_pos z]
  · rw [if_neg (fun y => z ((nI_eq (by omega) (by omega)).mp y)), if_neg z]
def qB (L0 L : List (Nat × Nat × Nat × Nat × Nat)) (c : Nat) (e : Nat × Nat × Nat × Nat × Nat) : Bool := !decide (e.1 = c) || decide (cn (cdN e) L0 = cn (cdN e) L)
def gAn (L0 L : List (Nat × Nat × Nat × Nat × Nat)) (c : Nat) (s : Bool) (e : Nat × Nat × Nat × Nat × Nat) : Bool := s && qB L0 L c e
theorem gAn_all (L0 L : List (Nat × Nat × Nat × Nat × Nat)) (c : Nat) : ∀ (M : List (Nat × Nat × Nat × Nat × Nat)) (s : Bool), M.foldl (gAn L0 L c) s = (s && M.all (qB L0 L c)) := by
  intro M
  induction M with
  | nil => intro s; simp
  | cons e r ih =>
    intro s
    rw [List.foldl_cons, ih, List.all_cons]
    unfold gAn
    rw [Bool.and_assoc]
def b01 (s : Bool) : Int32 := if s then 1 else 0
theorem sameAtM {L0 L : List (Nat × Nat × Nat × Nat × Nat)} (hE0 : okE L0) (hE : okE L) {ca ti lo tw wa codes : Nat → Int32} (hL : LayS L (nI L.length, ca, ti, lo, tw, wa)) (hC : Cds L0 codes) {c : Nat} (hc : c < 36) : (f_X10_sameAt (nI L.length) (nI L0.length) ca ti lo tw codes (nI c) = some 1 ∧ PP L0 L c) ∨ (f_X10_sameAt (nI L.length) (nI L0.length) ca ti lo tw codes (nI c) = some 0 ∧ ¬ PP L0 L c) := by
  have h480 := hE.1
  have h480' := hE0.1
  have key2 : ∀ s0 : Bool, f_X10_sameAt_L56 (nI L.length) (nI L0.length) ca ti lo tw codes (nI c) FU (b01 s0) 0 = some (b01 (s0 && L.all (qB L0 L c))) := fun s0 => by
    have := g_ref L (gAn L0 L c) (fun n s y => f_X10_sameAt_L56 (nI L.length) (nI L0.length) ca ti lo tw codes (nI c) n (b01 s) y) (fun s => some (b01 s)) (fun n s => by
      show f_X10_sameAt_L56 (nI L.length) (nI L0.length) ca ti lo tw codes (nI c) (n + 1) (b01 s) (nI L.length) = some (b01 s)
      rw [f_X10_sameAt_L56, if_pos (nI_le (Nat.le_refl _) (by omega))]
      cases s <;> rfl) (fun n s k e he => by
      have hk := lt_of_get he
      have hbe := hE.2 e (mem_of_get he)
      have hb := (cd_lt hbe).1
      have e1 : ca k = nI e.1 := (hL.2 k e he).1
      show f_X10_sameAt_L56 (nI L.length) (nI L0.length) ca ti lo tw codes (nI c) (n + 1) (b01 s) (nI k) = f_X10_sameAt_L56 (nI L.length) (nI L0.length) ca ti lo tw codes (nI c) n (b01 (gAn L0 L c s e)) (nI (k + 1))
      rw [f_X10_sameAt_L56, if_neg (nI_ge hk (by omega))]
      unfold f_X10_sameAt_J94 f_X10_sameAt_J90 f_X10_sameAt_J95 gAn qB
      simp only [gd_t (ib_nI (show k < 480 by omega) (show 480 < 2 ^ 31 by decide)), nI_clamp (show k < 2 ^ 31 by omega), e1, codeOfM hL hE he, bN, sameOfM hE0 hE hL hC hb, st1]
      cases s with
      | false =>
        rw [if_pos (show b01 false = 0 from rfl), Bool.false_and]
        rfl
      | true =>
        rw [if_neg (show ¬ b01 true = 0 by decide), Bool.true_and]
        by_cases q : e.1 = c
        · rw [if_pos (by rw [q]), decide_eq_true q, Bool.not_true, Bool.false_or]
          by_cases z : cn (cdN e) L0 = cn (cdN e) L
          · rw [if_pos z, i10, decide_eq_true z]
            rfl
          · rw [if_neg z, i00, decide_eq_false z]
            rfl
        · rw [if_neg (fun y => q ((nI_eq (by omega) (by omega)).mp y)), decide_eq_false q]
          rfl) L.length 0 FU s0 (Nat.zero_add _) (by have : FU = 5000 := rfl; omega)
    have this' : f_X10_sameAt_L56 (nI L.length) (nI L0.length) ca ti lo tw codes (nI c) FU (b01 s0) 0 = some (b01 (L.foldl (gAn L0 L c) s0)) := this
    rw [this', gAn_all]
  have key1 : f_X10_sameAt_L4 (nI L.length) (nI L0.length) ca ti lo tw codes (nI c) FU 1 0 = f_X10_sameAt_J54 (nI L.length) (nI L0.length) ca ti lo tw codes (nI c) (b01 (L0.all (qB L0 L c))) := by
    have := g_ref L0 (gAn L0 L c) (fun n s y => f_X10_sameAt_L4 (nI L.length) (nI L0.length) ca ti lo tw codes (nI c) n (b01 s) y) (fun s => f_X10_sameAt_J54 (nI L.length) (nI L0.length) ca ti lo tw codes (nI c) (b01 s)) (fun n s => by
      show f_X10_sameAt_L4 (nI L.length) (nI L0.length) ca ti lo tw codes (nI c) (n + 1) (b01 s) (nI L0.length) = _
      rw [f_X10_sameAt_L4, if_pos (nI_le (Nat.le_refl _) (by omega))]) (fun n s k e he => by
      have hk := lt_of_get he
      have hbe := hE0.2 e (mem_of_get he)
      obtain ⟨hb, hdv⟩ := cd_lt hbe
      have e524 : nI (cdN e) / 524288 = nI e.1 := by
        rw [show (524288 : Int32) = nI 524288 from rfl, nI_div (by omega) (by decide), hdv]
      show f_X10_sameAt_L4 (nI L.length) (nI L0.length) ca ti lo tw codes (nI c) (n + 1) (b01 s) (nI k) = f_X10_sameAt_L4 (nI L.length) (nI L0.length) ca ti lo tw codes (nI c) n (b01 (gAn L0 L c s e)) (nI (k + 1))
      rw [f_X10_sameAt_L4, if_neg (nI_ge hk (by omega))]
      unfold f_X10_sameAt_J46 f_X10_sameAt_J42 f_X10_sameAt_J47 gAn qB
      simp only [gd_t (ib_nI (show k < 480 by omega) (show 480 < 2 ^ 31 by decide)), nI_clamp (show k < 2 ^ 31 by omega), hC k e he, e524, sameOfM hE0 hE hL hC hb, bN, st1]
      cases s with
      | false =>
        rw [if_pos (show b01 false = 0 from rfl), Bool.false_and]
        rfl
      | true =>
        rw [if_neg (show ¬ b01 true = 0 by decide), Bool.true_and]
        by_cases q : e.1 = c
        · rw [if_pos (by rw [q]), decide_eq_true q, Bool.not_true, Bool.false_or]
          by_cases z : cn (cdN e) L0 = cn (cdN e) L
          · rw [if_pos z, i10, decide_eq_true z]
            rfl
          · rw [if_neg z, i00, decide_eq_false z]
            rfl
        · rw [if_neg (fun y => q ((nI_eq (by omega) (by omega)).mp y)), decide_eq_false q]
          rfl) L0.length 0 FU true (Nat.zero_add _) (by have : FU = 5000 := rfl; omega)
    have this' : f_X10_sameAt_L4 (nI L.length) (nI L0.length) ca ti lo tw codes (nI c) FU 1 0 = f_X10_sameAt_J54 (nI L.length) (nI L0.length) ca ti lo tw codes (nI c) (b01 (L0.foldl (gAn L0 L c) true)) := this
    rw [this', gAn_all, Bool.true_and]
  have hres : f_X10_sameAt (nI L.length) (nI L0.length) ca ti lo tw codes (nI c) = some (b01 (L0.all (qB L0 L c) && L.all (qB L0 L c))) := by
    unfold f_X10_sameAt
    rw [key1]
    unfold f_X10_sameAt_J54
    rw [key2]
  have hPP : (L0.all (qB L0 L c) && L.all (qB L0 L c)) = true ↔ PP L0 L c := by
    have hq : ∀ e, qB L0 L c e = true ↔ (e.1 = c → cn (cdN e) L0 = cn (cdN e) L) := fun e => by
      unfold qB
      by_cases q : e.1 = c <;> simp [q]
    rw [Bool.and_eq_true, List.all_eq_true, List.all_eq_true]
    constructor
    · rintro ⟨h1, h2⟩ e he
      rcases he with he | he
      · exact (hq e).mp (h1 e he)
      · exact (hq e).mp (h2 e he)
    · intro h
      exact ⟨fun e he => (hq e).mpr (h e (Or.inl he)), fun e he => (hq e).mpr (h e (Or.inr he))⟩
  rw [hres]
  cases hb : (L0.all (qB L0 L c) && L.all (qB L0 L c)) with
  | true => exact Or.inl ⟨rfl, hPP.mp hb⟩
  | false => exact Or.inr ⟨rfl, fun y => by rw [hPP.mpr y] at hb; cases hb⟩
theorem flipC {a b : Nat} (gr wi : Nat → Int32) (ha : a ≤ 6) (hb : b ≤ 6) {j : Nat} (hj : j < a * b) : ∃ wi', f_X2_flip (nI a) (nI b) gr wi (nI j) = some (upd gr j (if gr j = -1 then 0 else -1), wi') := by
  have h36 := mul_le36 ha hb
  unfold f_X2_flip
  rw [isRockC gr rfl rfl ha hb hj, bN]
  by_cases z : gr j = -1
  · obtain ⟨wi', h1, -⟩ := putRockC gr wi (show nI a = nI a from rfl) (show nI b = nI b from rfl) ha hb hj 0
    rw [if_pos z, if_pos z, i00, h1, bN]
    exact ⟨_, rfl⟩
  · rw [if_neg z, if_neg z, i10]
    unfold f_X2_putFloor
    rw [has_nI rfl rfl ha hb hj, bN, i10, gd_t (ib_nI (show j < 36 by omega) (by decide)), nI_clamp (by omega), bN]
    exact ⟨_, rfl⟩
theorem chg_L64 {L : List (Nat × Nat × Nat × Nat × Nat)} (hE : okE L) {ca ti lo tw wa : Nat → Int32} (hL : LayS L (nI L.length, ca, ti, lo, tw, wa)) (fa : Int32) (cm : Int32) (row : Nat → Int32) (x1 x2 x3 x4 : Int32) : ∀ (d k n : Nat) (codes : Nat → Int32), k + d = L.length → d < n → (∀ i e, i < k → L[i]? = some e → codes i = nI (cdN e)) → ∃ codes', f_X10_changed_L64 fa (nI L.length) cm row ca ti lo tw wa x1 x2 x3 x4 n (nI k) codes = f_X10_changed_J92 fa (nI L.length) cm row ca ti lo tw wa codes' x1 x2 x3 x4 ∧ Cds L codes' := by
  have h480 := hE.1
  intro d
  induction d with
  | zero =>
    intro k n codes hk hn hc
    obtain ⟨n, rfl⟩ : ∃ m, n = m + 1 := ⟨n - 1, by omega⟩
    have : k = L.length := by omega
    subst this
    exact ⟨codes, by rw [f_X10_changed_L64, if_pos (nI_le (Nat.le_refl _) (by omega))], fun i e he => hc i e (lt_of_get he) he⟩
  | succ d ih =>
    intro k n codes hk hn hc
    obtain ⟨n, rfl⟩ : ∃ m, n = m + 1 := ⟨n - 1, by omega⟩
    have hkl : k < L.length := by omega
    have he : L[k]? = some L[k] := List.getElem?_eq_getElem hkl
    rw [f_X10_changed_L64, if_neg (nI_ge hkl (by omega)), codeOfM hL hE he, bN, gd_t (ib_nI (show k < 480 by omega) (by decide)), st1, nI_clamp (by omega)]
    refine ih (k + 1) n _ (by omega) (by omega) (fun i e hi hie => ?_)
    by_cases z : i = k
    · subst z
      rw [he] at hie
      cases hie
      exact upd_same _ _ _
    · rw [upd_ne _ _ z]
      exact hc i e (by omega) hie
theorem chg_both {W W' : Nat → List (Option (Nat × Nat × Nat))} {a b : Nat} (ha : a ≤ 6) (hb : b ≤ 6) {gr gr' wi row : Nat → Int32} (hwin : ∀ p, p < 6 → row (38 + p) = wi p ∧ (wi p = -1 ∨ ∃ c : Nat, c < a * b ∧ wi p = nI c ∧ gr c = -1)) (hW : okW W a b gr) (hW' : okW W' a b gr') {mk la mk' la' : Nat → Int32} (hv : Wv W 8 mk la) (hv' : Wv W' 8 mk' la') {ca ti lo tw wa codes : Nat → Int32} (hL : LayS (lsU W' 8) (nI (lsU W' 8).length, ca, ti, lo, tw, wa)) (hC : Cds (lsU W 8) codes) (x1 : Int32) (t0 t1 t2 t3 t4 t5 : Int32) (tg tw' tl : Nat → Int32) : ∀ (d k n1 n2 : Nat) (s : Int32), k + d = 6 → d < n1 → d < n2 → ∃ r, f_X9_changed_L109 wi t0 t1 t2 t3 t4 t5 tg tw' tl mk la mk' la' x1 n1 s (nI k) = some (r, t0, t1, t2, t3, t4, t5, tg, tw', tl, mk, la, mk', la') ∧ f_X10_changed_L145 (nI (lsU W' 8).length) (nI (lsU W 8).length) row ca ti lo tw wa codes x1 n2 s (nI k) = some (r, nI (lsU W' 8).length, nI (lsU W 8).length, row, ca, ti, lo, tw, wa, codes) := by
  intro d
  induction d with
  | zero =>
    intro k n1 n2 s hk hn1 hn2
    obtain ⟨n1, rfl⟩ : ∃ m, n1 = m + 1 := ⟨n1 - 1, by omega⟩
    obtain ⟨n2, rfl⟩ : ∃ m, n2 = m + 1 := ⟨n2 - 1, by omega⟩
    have : k = 6 := by omega
    subst this
    exact ⟨s, by rw [f_X9_changed_L109, if_pos (show (6 : Int32) ≤ nI 6 by decide)], by rw [f_X10_changed_L145, if_pos (show (6 : Int32) ≤ nI 6 by decide)]⟩
  | succ d ih =>
    intro k n1 n2 s hk hn1 hn2
    obtain ⟨n1, rfl⟩ : ∃ m, n1 = m + 1 := ⟨n1 - 1, by omega⟩
    obtain ⟨n2, rfl⟩ : ∃ m, n2 = m + 1 := ⟨n2 - 1, by omega⟩
    rw [f_X9_changed_L109, if_neg (show ¬ (6 : Int32) ≤ nI k from nI_ge (b := 6) (by omega) (by decide)), windowOf_nI wi (show k < 6 by omega), bN, f_X10_changed_L145, if_neg (show ¬ (6 : Int32) ≤ nI k from nI_ge (b := 6) (by omega) (by decide))]
    unfold f_X9_changed_J167 f_X10_changed_J194 f_X10_changed_J195
    simp only [show (38 : Int32) + nI k = nI (38 + k) from nI_add 38 k, gd_t (ib_nI (show 38 + k < 558 by omega) (show 558 < 2 ^ 31 by decide)), nI_clamp (show 38 + k < 2 ^ 31 by omega), (hwin k (by omega)).1, st1, or_0]
    rcases win_c ha hb (hwin k (by omega)).2 with h | ⟨c, h1, h2, h3, h4⟩
    · rw [if_pos h, if_pos h]
      exact ih (k + 1) n1 n2 s (by omega) (by omega) (by omega)
    · rw [if_neg h3, if_neg h3]
      by_cases q : wi k = x1
      · rw [if_pos q, if_pos q]
        exact ih (k + 1) n1 n2 s (by omega) (by omega) (by omega)
      · rw [if_neg q, if_neg q, h2]
        rcases sameAtC ha hb hW hW' hv hv' h1 with ⟨r1, g1⟩ | ⟨r1, g1⟩
        · rcases sameAtM (okE_lsU ha hb hW) (okE_lsU ha hb hW') hL hC h1 with ⟨r2, g2⟩ | ⟨r2, g2⟩
          · rw [r1, bN, i10, r2, bN, i10]
            exact ih (k + 1) n1 n2 s (by omega) (by omega) (by omega)
          · exact absurd g1 g2
        · rcases sameAtM (okE_lsU ha hb hW) (okE_lsU ha hb hW') hL hC h1 with ⟨r2, g2⟩ | ⟨r2, g2⟩
          · exact absurd g2 g1
          · rw [r1, bN, i00, r2, bN, i00]
            exact ih (k + 1) n1 n2 _ (by omega) (by omega) (by omega)
theorem upd_back (row : Nat → Int32) (i : Nat) (x : Int32) : upd (upd row i x) i (row i) = row := by
  funext j
  by_cases h : j = i
  · subst h
    exact upd_same _ _ _
  · rw [upd_ne _ _ h, upd_ne _ _ h]
set_option maxRecDepth 20000 in
theorem ob_changed : Ob_changed RR := by
  intro X XA XL Y YA x1 x2 x3 x4 hx h
  obtain ⟨a, b, f, ha1, ha, hb1, hb, hf, e5, e6, e7, y5, r0, r1, hG, hR, hwin⟩ := RR_sc h
  have h36 := mul_le36 ha hb
  unfold f_X9_changed f_X10_changed
  rcases ccase (gr := XA 2) (wi := XA 3) ha1 ha hb1 hb e5 e6 r0 r1 x1 with ⟨c, hc, rfl, q1, q2⟩ | ⟨q1, q2⟩
  · rcases ccase (gr := XA 2) (wi := XA 3) ha1 ha hb1 hb e5 e6 r0 r1 x2 with ⟨j, hj, rfl, q3, q4⟩ | ⟨q3, q4⟩
    · rcases lcase x3 with ⟨l, hl1, hl, rfl, q5, q6⟩ | ⟨q5, q6⟩
      · by_cases hcj : nI c = nI j
        · simp only [q1, q2, q3, q4, q5, q6, bN, i10, if_pos hcj]
          exact ⟨_, _, rfl, rfl, rfl, h⟩
        · simp only [q1, q2, q3, q4, q5, q6, bN, i10, if_neg hcj, isRockC (XA 2) e5 e6 ha hb hj, isFloorM (YA 0) (show j < 36 by omega), hR.2.2 j (by omega)]
          by_cases g1 : XA 2 j = -1
          · have hgr1 : ∀ i, i < 36 → cp (XA 5) (XA 2) 36 i = XA 2 i := fun i hi => cp_lt _ _ hi
            obtain ⟨wi', k1⟩ := flipC (cp (XA 5) (XA 2) 36) (cp (XA 6) (XA 3) 6) ha hb hc
            rw [hgr1 c (by omega)] at k1
            have hG2 : okG (upd (cp (XA 5) (XA 2) 36) c (if XA 2 c = -1 then 0 else -1)) := fun i hi => by
              by_cases z : i = c
              · rw [z, upd_same]
                split
                · exact Or.inr ⟨0, by decide, rfl⟩
                · exact Or.inl rfl
              · rw [upd_ne _ _ z, hgr1 i hi]
                exact hG i hi
            have hR2 : okR a b (upd (cp (XA 5) (XA 2) 36) c (if XA 2 c = -1 then 0 else -1)) (upd (YA 0) (2 + c) (if XA 2 c = -1 then 0 else -1)) := by
              refine ⟨(upd_ne _ _ (by omega)).trans r0, (upd_ne _ _ (by omega)).trans r1, fun i hi => ?_⟩
              by_cases z : i = c
              · rw [z, upd_same, upd_same]
              · rw [upd_ne _ _ (by omega), upd_ne _ _ z, hgr1 i hi]
                exact hR.2.2 i hi
            obtain ⟨mk, la, s1, hv⟩ := spreadC hG ha1 ha hb hf x4 hj hl (XA 35) (XA 36)
            obtain ⟨mk', la', s2, hv'⟩ := spreadC hG2 ha1 ha hb hf x4 hj hl (XA 37) (XA 38)
            obtain ⟨⟨m, ca, ti, lo, tw, wa⟩, s3, hLay⟩ := laySoundsM hG hR ha1 ha hb1 hb hf x4 hj hl1 hl (Y 12) (YA 6) (YA 7) (YA 8) (YA 9) (YA 10)
            obtain ⟨⟨m2, ca2, ti2, lo2, tw2, wa2⟩, s4, hLay2⟩ := laySoundsM hG2 hR2 ha1 ha hb1 hb hf x4 hj hl1 hl m ca ti lo tw wa
            have hW := okWy ha hb (XA 2) f x4 hj hl
            have hW2 := okWy ha hb (upd (cp (XA 5) (XA 2) 36) c (if XA 2 c = -1 then 0 else -1)) f x4 hj hl
            have hm : m = nI (lsU (Wy a b (XA 2) f x4 j l) 8).length := hLay.1
            subst hm
            have hm2 : m2 = nI (lsU (Wy a b (upd (cp (XA 5) (XA 2) 36) c (if XA 2 c = -1 then 0 else -1)) f x4 j l) 8).length := hLay2.1
            subst hm2
            obtain ⟨codes, t1, hC⟩ := chg_L64 (okE_lsU ha hb hW) hLay (nI f) (nI (lsU (Wy a b (XA 2) f x4 j l) 8).length) (YA 0) (nI c) (nI j) (nI l) x4 (lsU (Wy a b (XA 2) f x4 j l) 8).length 0 FU (YA 12) (Nat.zero_add _) (by have : FU = 5000 := rfl; have := lsU480 hW; omega) (fun i e hi _ => absurd hi (Nat.not_lt_zero i))
            obtain ⟨r, u1, u2⟩ := chg_both ha hb hwin hW hW2 hv hv' hLay2 hC (nI c) (nI a) (nI b) (nI f) (X 8) (X 9) (X 10) (upd (cp (XA 5) (XA 2) 36) c (if XA 2 c = -1 then 0 else -1)) wi' (cp (XA 7) (XA 4) 18) 6 0 FU FU 0 rfl (by decide) (by decide)
            have A2 : f_X10_changed_L64 (nI f) (nI (lsU (Wy a b (XA 2) f x4 j l) 8).length) (nI (lsU (Wy a b (XA 2) f x4 j l) 8).length) (YA 0) ca ti lo tw wa (nI c) (nI j) (nI l) x4 FU 0 (YA 12) = some (r, nI (lsU (Wy a b (upd (cp (XA 5) (XA 2) 36) c (if XA 2 c = -1 then 0 else -1)) f x4 j l) 8).length, nI (lsU (Wy a b (XA 2) f x4 j l) 8).length, YA 0, ca2, ti2, lo2, tw2, wa2, codes) := by
              have t1' : f_X10_changed_L64 (nI f) (nI (lsU (Wy a b (XA 2) f x4 j l) 8).length) (nI (lsU (Wy a b (XA 2) f x4 j l) 8).length) (YA 0) ca ti lo tw wa (nI c) (nI j) (nI l) x4 FU 0 (YA 12) = _ := t1
              rw [t1']
              have J : ∀ k0 : Int32, k0 = (if XA 2 c = -1 then 0 else -1) → f_X10_changed_J120 (nI f) (nI (lsU (Wy a b (XA 2) f x4 j l) 8).length) (nI (lsU (Wy a b (XA 2) f x4 j l) 8).length) (YA 0) ca ti lo tw wa codes (nI c) (nI j) (nI l) x4 (XA 2 c) k0 (nI (2 + c)) = some (r, nI (lsU (Wy a b (upd (cp (XA 5) (XA 2) 36) c (if XA 2 c = -1 then 0 else -1)) f x4 j l) 8).length, nI (lsU (Wy a b (XA 2) f x4 j l) 8).length, YA 0, ca2, ti2, lo2, tw2, wa2, codes) := fun k0 hk0 => by
                have hub : upd (upd (YA 0) (2 + c) (if XA 2 c = -1 then 0 else -1)) (2 + c) (XA 2 c) = YA 0 := by
                  have := upd_back (YA 0) (2 + c) (if XA 2 c = -1 then 0 else -1)
                  rw [hR.2.2 c (by omega)] at this
                  exact this
                unfold f_X10_changed_J120
                simp only [show (2 : Int32) + nI c = nI (2 + c) from nI_add 2 c, gd_t (ib_nI (show 2 + c < 558 by omega) (show 558 < 2 ^ 31 by decide)), nI_clamp (show 2 + c < 2 ^ 31 by omega), hk0, s4, bN, hub]
                exact u2
              unfold f_X10_changed_J92
              simp only [show (2 : Int32) + nI c = nI (2 + c) from nI_add 2 c, gd_t (ib_nI (show 2 + c < 558 by omega) (show 558 < 2 ^ 31 by decide)), nI_clamp (show 2 + c < 2 ^ 31 by omega), hR.2.2 c (show c < 36 by omega)]
              by_cases z : XA 2 c = -1
              · rw [if_pos z]
                exact J 0 (if_pos z).symm
              · rw [if_neg z]
                exact J (-1) (if_neg z).symm
            have u1' : f_X9_changed_L109 (XA 3) (nI a) (nI b) (nI f) (X 8) (X 9) (X 10) (upd (cp (XA 5) (XA 2) 36) c (if XA 2 c = -1 then 0 else -1)) wi' (cp (XA 7) (XA 4) 18) mk la mk' la' (nI c) FU 0 0 = _ := u1
            rw [e5, e6, e7, y5]
            simp only [if_pos g1, i10, i00, copy2, bN, k1, s1, s2, u1', s3, A2]
            exact ⟨_, _, rfl, rfl, rfl, h⟩
          · simp only [if_neg g1, i10, i00]
            exact ⟨_, _, rfl, rfl, rfl, h⟩
      · simp only [q1, q2, q3, q4, q5, q6, bN, i10, i00]
        exact ⟨_, _, rfl, rfl, rfl, h⟩
    · simp only [q1, q2, q3, q4, bN, i10, i00]
      exact ⟨_, _, rfl, rfl, rfl, h⟩
  · simp only [q1, q2, bN, i00]
    exact ⟨_, _, rfl, rfl, rfl, h⟩
end M71
