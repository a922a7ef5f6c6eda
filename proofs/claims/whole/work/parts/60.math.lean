section M60
/-! whisper -/
def gW (wi : Nat → Int32) (s : Int32) (e : Nat × Nat × Nat × Nat × Nat) : Int32 := s ||| pAt wi (nI e.1) 6
theorem pers_none (w h : Int32) (wi : Nat → Int32) : f_X2_personsAt w h wi (-1) = some 0 := by
  unfold f_X2_personsAt f_X2_has
  rfl
theorem whisperC {W : Nat → List (Option (Nat × Nat × Nat))} {a b : Nat} (ha : a ≤ 6) (hb : b ≤ 6) {gr : Nat → Int32} (hW : okW W a b gr) {marks lasting : Nat → Int32} (hv : Wv W 8 marks lasting) (wi : Nat → Int32) (s0 : Int32) : f_X9_whisper_L65 (nI a) (nI b) wi marks lasting FU s0 0 = some ((lsU W 8).foldl (gW wi) s0, marks, lasting) := by
  refine g_out W (gW wi) (fun n s x => f_X9_whisper_L65 (nI a) (nI b) wi marks lasting n s x) (fun s => some (s, marks, lasting)) (fun n s => ?_) (fun n s w hw => ?_) 8 0 FU s0 rfl (by decide)
  · rw [f_X9_whisper_L65, if_pos (show (8 : Int32) ≤ nI 8 by decide)]
  · have hl := lastTick_nI hv hw
    have h60 := (hv w hw).2.1
    rw [f_X9_whisper_L65, if_neg (show ¬ (8 : Int32) ≤ nI w from nI_ge (b := 8) hw (by decide))]
    refine (g_in w (W w) (gW wi) (fun n' s' x => f_X9_whisper_L75 (f_X9_whisper_L65 (nI a) (nI b) wi marks lasting n) (nI a) (nI b) wi marks lasting (nI w) n' s' x) (fun s' => f_X9_whisper_L65 (nI a) (nI b) wi marks lasting n s' (nI (w + 1))) (fun n' s' => ?_) (fun n' s' i e he => ?_) (W w).length 0 FU s (Nat.zero_add _) (by have : FU = 5000 := rfl; omega))
    · rw [f_X9_whisper_L75, hl, bN, if_pos (nI_lt (by omega) (by omega))]
      unfold f_X9_whisper_J121
      rw [st1]
    · have hi := lt_of_get he
      rw [f_X9_whisper_L75, hl, bN, if_neg (show ¬ nI (W w).length < nI (i + 1) from fun q => absurd ((nI_ltI (by omega) (by omega)).mp q) (by omega)), soundOf_i hv hw he, bN, st1]
      cases e with
      | none =>
        rw [cellOf_0, bN, pers_none, bN, or_0]
        rfl
      | some v =>
        obtain ⟨o1, o2, o3⟩ := get_ok ha hb hW hw he
        have hc := ((hW w hw).2 v (mem_of_get he)).1
        rw [cellOf_enc o1 o2 o3, bN, personsAtC wi rfl rfl ha hb hc, bN]
        rfl
theorem whisperM {L : List (Nat × Nat × Nat × Nat × Nat)} {m : Int32} {ca ti lo tw wa : Nat → Int32} (hL : LayS L (m, ca, ti, lo, tw, wa)) (h480 : L.length ≤ 480) {row wi : Nat → Int32} (hr : ∀ p, p < 6 → row (38 + p) = wi p) (s0 : Int32) : f_X10_whisper_L49 m row ca ti lo tw wa FU s0 0 = some (L.foldl (gW wi) s0, m, ca, ti, lo, tw, wa) := by
  obtain ⟨hm, hL⟩ := hL
  have hm : m = nI L.length := hm
  subst hm
  refine g_ref L (gW wi) (fun n s x => f_X10_whisper_L49 (nI L.length) row ca ti lo tw wa n s x) (fun s => some (s, nI L.length, ca, ti, lo, tw, wa)) (fun n s => ?_) (fun n s k e he => ?_) L.length 0 FU s0 (Nat.zero_add _) (by have : FU = 5000 := rfl; omega)
  · rw [f_X10_whisper_L49, if_pos (nI_le (Nat.le_refl _) (by omega))]
  · have hk := lt_of_get he
    have e1 : ca k = nI e.1 := (hL k e he).1
    rw [f_X10_whisper_L49, if_neg (nI_ge hk (by omega)), gd_t (ib_nI (by omega) (by decide)), nI_clamp (by omega), e1, personsAtM, bN, st1, pAt_congr 6 hr]
    rfl
set_option maxRecDepth 20000 in
theorem ob_whisper : Ob_whisper RR := by
  intro X XA XL Y YA x1 x2 x3 hx h
  obtain ⟨a, b, f, ha1, ha, hb1, hb, hf, e5, e6, e7, y5, r0, r1, hG, hR, hwin⟩ := RR_sc h
  have h36 := mul_le36 ha hb
  unfold f_X9_whisper f_X10_whisper
  rcases ccase (gr := XA 2) (wi := XA 3) ha1 ha hb1 hb e5 e6 r0 r1 x1 with ⟨c, hc, rfl, q1, q2⟩ | ⟨q1, q2⟩
  · rcases lcase x2 with ⟨l, hl1, hl, rfl, q5, q6⟩ | ⟨q5, q6⟩
    · simp only [q1, q2, q5, q6, bN, i10, isRockC (XA 2) e5 e6 ha hb hc, isFloorM (YA 0) (show c < 36 by omega), hR.2.2 c (by omega)]
      by_cases g1 : XA 2 c = -1
      · obtain ⟨mk, la, s1, hv⟩ := spreadC hG ha1 ha hb hf x3 hc hl (XA 35) (XA 36)
        obtain ⟨⟨m, ca, ti, lo, tw, wa⟩, s2, hLay⟩ := laySoundsM hG hR ha1 ha hb1 hb hf x3 hc hl1 hl (Y 12) (YA 6) (YA 7) (YA 8) (YA 9) (YA 10)
        have hW := okWy ha hb (XA 2) f x3 hc hl
        have hwc := fun s0 => whisperC ha hb hW hv (XA 3) s0
        rw [← e5, ← e6, ← e7] at s1
        rw [← y5] at s2
        rw [← e5, ← e6] at hwc
        simp only [if_pos g1, i10, i00, s1, s2, bN, personsAtC (XA 3) e5 e6 ha hb hc, personsAtM, hwc, whisperM hLay (lsU480 hW) (fun p hp => (hwin p hp).1)]
        refine ⟨_, _, rfl, rfl, ?_, h⟩
        rw [pAt_congr 6 (fun p hp => ((hwin p hp).1 : (fun p => YA 0 (38 + p)) p = XA 3 p))]
      · simp only [if_neg g1, i10, i00]
        exact ⟨_, _, rfl, rfl, rfl, h⟩
    · simp only [q1, q2, q5, q6, bN, i10, i00]
      exact ⟨_, _, rfl, rfl, rfl, h⟩
  · simp only [q1, q2, bN, i00]
    exact ⟨_, _, rfl, rfl, rfl, h⟩
/-! led -/
def mkN (wi : Nat → Int32) (c : Nat) : Nat → Nat
  | 0 => 0
  | k + 1 => if wi k = nI c then 2 ^ k + mkN wi c k else mkN wi c k
theorem mkN_lt (wi : Nat → Int32) (c : Nat) : ∀ k, mkN wi c k < 2 ^ k := by
  intro k
  induction k with
  | zero => exact Nat.one_pos
  | succ k ih =>
    rw [mkN, Nat.pow_succ]
    split <;> omega
theorem or_comm' (x y : Int32) : x ||| y = y ||| x := by
  apply Int32.toBitVec_inj.mp
  simp only [Int32.toBitVec_or, BitVec.or_comm]
theorem pAt_mkN (wi : Nat → Int32) (c : Nat) : ∀ k, k ≤ 6 → pAt wi (nI c) k = nI (mkN wi c k) := by
  intro k
  induction k with
  | zero => intro _; rfl
  | succ k ih =>
    intro hk
    have h1 := mkN_lt wi c k
    have h2 : 2 ^ k ≤ 2 ^ 6 := Nat.pow_le_pow_right (by decide) (by omega)
    rw [pAt, mkN, ih (by omega)]
    by_cases q : wi k = nI c
    · rw [if_pos q, if_pos q, or_comm', show (1 : Int32) = nI 1 from rfl, or_add h1 (by omega) (by omega), Nat.one_mul]
    · rw [if_neg q, if_neg q]
theorem mkN_bit (wi : Nat → Int32) (c : Nat) : ∀ k p, p < k → ((mkN wi c k).testBit p = true ↔ wi p = nI c) := by
  intro k
  induction k with
  | zero => intro p hp; omega
  | succ k ih =>
    intro p hp
    have h1 := mkN_lt wi c k
    rw [mkN]
    by_cases hpk : p = k
    · subst hpk
      by_cases q : wi p = nI c
      · rw [if_pos q, Nat.testBit_two_pow_add_eq, Nat.testBit_lt_two_pow h1]
        simp [q]
      · rw [if_neg q, Nat.testBit_lt_two_pow h1]
        simp [q]
    · by_cases q : wi k = nI c
      · rw [if_pos q, Nat.testBit_two_pow_add_gt (by omega)]
        exact ih p (by omega)
      · rw [if_neg q]
        exact ih p (by omega)
/-- the i-th set bit, or how many there were -/
def scn (s i : Nat) : Nat → Nat → Nat → Sum Nat Nat
  | 0, _, n => .inl n
  | d + 1, p, n => if s.testBit p then (if n = i then .inr p else scn s i d (p + 1) (n + 1)) else scn s i d (p + 1) n
def shf (m : Nat) : Sum Nat Nat → Sum Nat Nat
  | .inl k => .inl (k + m)
  | .inr p => .inr p
theorem scn_shift (s i m : Nat) : ∀ d p n, scn s (i + m) d p (n + m) = shf m (scn s i d p n) := by
  intro d
  induction d with
  | zero => intro p n; rfl
  | succ d ih =>
    intro p n
    rw [scn, scn]
    by_cases h : s.testBit p
    · rw [if_pos h, if_pos h]
      by_cases q : n = i
      · rw [if_pos q, if_pos (by omega)]; rfl
      · rw [if_neg q, if_neg (by omega), show n + m + 1 = n + 1 + m by omega, ih]
    · rw [if_neg h, if_neg h, ih]
theorem scn_le (s i : Nat) : ∀ d p n n', n ≤ i → scn s i d p n = .inl n' → n' ≤ i := by
  intro d
  induction d with
  | zero => intro p n n' h e; cases e; exact h
  | succ d ih =>
    intro p n n' h e
    rw [scn] at e
    split at e
    · split at e
      · cases e
      · exact ih _ _ _ (by omega) e
    · exact ih _ _ _ h e
theorem scn_6 (s i : Nat) (hi : 6 ≤ i) : ∀ d p n, n + d ≤ 6 → scn s i d p n = scn s 6 d p n := by
  intro d
  induction d with
  | zero => intro p n _; rfl
  | succ d ih =>
    intro p n h
    rw [scn, scn]
    by_cases q : s.testBit p
    · rw [if_pos q, if_pos q, if_neg (by omega), if_neg (by omega), ih _ _ (by omega)]
    · rw [if_neg q, if_neg q, ih _ _ (by omega)]
def getp : Sum Nat Nat → Nat
  | .inl _ => 0
  | .inr p => p
def isr : Sum Nat Nat → Bool
  | .inl _ => false
  | .inr _ => true
theorem cntC : ∀ s, s < 64 → f_J6_bitCount_0f7a4 (nI s) = some (nI (pcn s)) := by decide +kernel
theorem scn_dec : ∀ s, s < 64 → ∀ q, q < 7 → (pcn s ≤ q → scn s q 6 0 0 = .inl (pcn s)) ∧ (q < pcn s → isr (scn s q 6 0 0) = true ∧ f_X9_bitAt (nI s) (nI q) = some (nI (getp (scn s q 6 0 0)))) := by decide +kernel
theorem scn_A {s i n : Nat} (hs : s < 64) (hn : n ≤ i) (h : pcn s ≤ i - n) : scn s i 6 0 n = .inl (n + pcn s) := by
  have h6 := pcn_le s hs
  have key : scn s (i - n) 6 0 0 = .inl (pcn s) := by
    by_cases q : i - n < 7
    · exact (scn_dec s hs _ q).1 h
    · rw [scn_6 s _ (by omega) 6 0 0 (by decide)]
      exact (scn_dec s hs 6 (by decide)).1 h6
  have := scn_shift s (i - n) n 6 0 0
  rw [show i - n + n = i by omega, Nat.zero_add, key] at this
  rw [this, Nat.add_comm]
  rfl
theorem scn_B {s i n : Nat} (hs : s < 64) (hn : n ≤ i) (h : i - n < pcn s) : ∃ p, scn s i 6 0 n = .inr p ∧ f_X9_bitAt (nI s) (nI (i - n)) = some (nI p) := by
  have h6 := pcn_le s hs
  obtain ⟨k1, k2⟩ := (scn_dec s hs (i - n) (by omega)).2 h
  have := scn_shift s (i - n) n 6 0 0
  rw [show i - n + n = i by omega, Nat.zero_add] at this
  cases hx : scn s (i - n) 6 0 0 with
  | inl k => rw [hx] at k1; cases k1
  | inr p =>
    rw [hx] at this k2
    exact ⟨p, this, k2⟩
end M60
