section M61
def scanL (wi : Nat → Int32) (i : Nat) : List (Nat × Nat × Nat × Nat × Nat) → Nat → Sum Nat ((Nat × Nat × Nat × Nat × Nat) × Nat)
  | [], n => .inl n
  | e :: r, n => match scn (mkN wi e.1 6) i 6 0 n with
    | .inl n' => scanL wi i r n'
    | .inr p => .inr (e, p)
def resL (x5 : Int32) (t : Nat) (e : Nat × Nat × Nat × Nat × Nat) (p : Nat) : Int32 := if x5 = 0 then nI p else if x5 = 1 then nI t else if x5 = 2 then nI e.2.2.1 else if x5 = 3 then nI e.2.2.2.1 else nI e.2.2.2.2
def outL {τ : Type} (K : Nat → Option τ) (R : Nat × Nat × Nat × Nat × Nat → Nat → Option τ) : Sum Nat ((Nat × Nat × Nat × Nat × Nat) × Nat) → Option τ
  | .inl n => K n
  | .inr z => R z.1 z.2
def evF (W : Nat → List (Option (Nat × Nat × Nat))) (t : Nat) : Nat → Nat → List (Nat × Nat × Nat × Nat × Nat)
  | 0, _ => []
  | d + 1, w => match sp W w t with
    | none => evF W t d (w + 1)
    | some v => (v.1, t, v.2.1, v.2.2, w) :: evF W t d (w + 1)
theorem ents_filter (w t : Nat) : ∀ (P : List (Option (Nat × Nat × Nat))) (t0 : Nat), t0 ≤ t → (ents w t0 P).filter (fun e => e.2.1 = t) = match (P[t - t0]?).join with | none => [] | some v => [(v.1, t, v.2.1, v.2.2, w)] := by
  have hgt : ∀ (P : List (Option (Nat × Nat × Nat))) (t0 : Nat), t < t0 → (ents w t0 P).filter (fun e => e.2.1 = t) = [] := by
    intro P
    induction P with
    | nil => intro t0 _; rfl
    | cons e r ih =>
      intro t0 h
      cases e with
      | none => rw [ents]; exact ih _ (by omega)
      | some v =>
        rw [ents, List.filter_cons]
        have : ¬ (t0 = t) := by omega
        simp [this]
        intro x y z u k hk
        have := ih (t0 + 1) (by omega)
        rw [List.filter_eq_nil_iff] at this
        have := this _ hk
        simpa using this
  intro P
  induction P with
  | nil => intro t0 h; simp [ents]
  | cons e r ih =>
    intro t0 h
    by_cases q : t0 = t
    · subst q
      rw [Nat.sub_self]
      cases e with
      | none =>
        rw [ents, hgt r (t0 + 1) (by omega)]
        rfl
      | some v =>
        rw [ents, List.filter_cons, hgt r (t0 + 1) (by omega)]
        simp
    · have e1 : t - t0 = (t - (t0 + 1)) + 1 := by omega
      rw [e1, List.getElem?_cons_succ]
      cases e with
      | none => rw [ents]; exact ih _ (by omega)
      | some v =>
        rw [ents, List.filter_cons, ih _ (by omega)]
        simp [q]
theorem evF_lsU (W : Nat → List (Option (Nat × Nat × Nat))) {t : Nat} (ht : 1 ≤ t) : ∀ d w, w + d = 8 → (lsU W w).filter (fun e => e.2.1 = t) ++ evF W t d w = (lsU W 8).filter (fun e => e.2.1 = t) := by
  intro d
  induction d with
  | zero =>
    intro w hw
    have : w = 8 := by omega
    subst this
    rw [evF, List.append_nil]
  | succ d ih =>
    intro w hw
    rw [← ih (w + 1) (by omega), lsU, List.filter_append, ents_filter w t (W w) 1 ht, evF, List.append_assoc]
    congr 1
    show _ = _ ++ evF W t d (w + 1)
    unfold sp
    cases ((W w)[t - 1]?).join with
    | none => rfl
    | some v => rfl
theorem evF_eq (W : Nat → List (Option (Nat × Nat × Nat))) {t : Nat} (ht : 1 ≤ t) : evF W t 8 0 = (lsU W 8).filter (fun e => e.2.1 = t) := by
  have := evF_lsU W ht 8 0 rfl
  rw [lsU] at this
  exact this
theorem led_L84 {W : Nat → List (Option (Nat × Nat × Nat))} {a b : Nat} (ha : a ≤ 6) (hb : b ≤ 6) {gr : Nat → Int32} (hW : okW W a b gr) {marks lasting : Nat → Int32} (hv : Wv W 8 marks lasting) (wi : Nat → Int32) {i : Nat} (hi : i < 2 ^ 31) (x5 : Int32) {t : Nat} (h1 : 1 ≤ t) (h60 : t ≤ 60) (rc : Int32 → Int32 → Option (Int32 × (Nat → Int32) × (Nat → Int32))) : ∀ (d w n fu : Nat), w + d = 8 → d < fu → n ≤ i → f_X9_led_L84 rc (nI a) (nI b) wi marks lasting (nI i) x5 (nI t) fu (nI n) (nI w) = outL (fun n' => rc (nI n') (nI (t + 1))) (fun e p => some (resL x5 t e p, marks, lasting)) (scanL wi i (evF W t d w) n) := by
  intro d
  induction d with
  | zero =>
    intro w n fu hk hn hni
    obtain ⟨fu, rfl⟩ : ∃ m, fu = m + 1 := ⟨fu - 1, by omega⟩
    have : w = 8 := by omega
    subst this
    rw [f_X9_led_L84, if_pos (show (8 : Int32) ≤ nI 8 by decide)]
    unfold f_X9_led_J165
    rw [st1]
    rfl
  | succ d ih =>
    intro w n fu hk hn hni
    obtain ⟨fu, rfl⟩ : ∃ m, fu = m + 1 := ⟨fu - 1, by omega⟩
    have hw : w < 8 := by omega
    rw [f_X9_led_L84, if_neg (show ¬ (8 : Int32) ≤ nI w from nI_ge (b := 8) hw (by decide)), soundOf_sp hv hw h1 h60, bN, evF]
    cases e : sp W w t with
    | none =>
      rw [cellOf_0, bN, pers_none, bN, show f_J6_bitCount_0f7a4 0 = some 0 from cntC 0 (by decide), bN, nI_sub' hni, if_pos (show (0 : Int32) ≤ nI (i - n) from nI_pos' (by omega)), add_0', st1]
      exact ih (w + 1) n fu (by omega) (by omega) hni
    | some v =>
      have hok := (sp_ok hW hw e h1).1
      obtain ⟨o1, o2, o3⟩ := okS_b ha hb hok
      have h64 : mkN wi v.1 6 < 64 := mkN_lt wi v.1 6
      have h6 := pcn_le _ h64
      rw [cellOf_enc o1 o2 o3, bN, personsAtC wi rfl rfl ha hb hok.1, bN, pAt_mkN wi v.1 6 (by decide), cntC _ h64, bN, nI_sub' hni]
      show _ = outL _ _ (scanL wi i ((v.1, t, v.2.1, v.2.2, w) :: evF W t d (w + 1)) n)
      rw [scanL]
      by_cases q : pcn (mkN wi v.1 6) ≤ i - n
      · rw [if_pos (nI_le q (by omega)), nI_add, st1, scn_A h64 hni q]
        exact ih (w + 1) _ fu (by omega) (by omega) (by omega)
      · obtain ⟨p, p1, p2⟩ := scn_B h64 hni (by omega)
        rw [if_neg (nI_ge (by omega) (by omega)), p1]
        unfold f_X9_led_J131 f_X9_ledPart
        rw [nI_sub' hni, p2, bN, soundOf_sp hv hw h1 h60, bN, e, loudOf_enc o1 o2 o3, thrownOf_enc o1 o2 o3, bN, bN]
        show _ = some (resL x5 t (v.1, t, v.2.1, v.2.2, w) p, marks, lasting)
        unfold resL
        by_cases c0 : x5 = 0
        · simp only [if_pos c0, bN]
        · by_cases c1 : x5 = 1
          · simp only [if_neg c0, if_pos c1, bN]
          · by_cases c2 : x5 = 2
            · simp only [if_neg c0, if_neg c1, if_pos c2, bN]
            · by_cases c3 : x5 = 3
              · simp only [if_neg c0, if_neg c1, if_neg c2, if_pos c3, bN]
              · simp only [if_neg c0, if_neg c1, if_neg c2, if_neg c3, bN]
theorem led_L85 {m : Int32} {ca ti lo tw wa : Nat → Int32} {k : Nat} (hk : k < 480) {e : Nat × Nat × Nat × Nat × Nat} (e1 : ca k = nI e.1) (e2 : ti k = nI e.2.1) (e3 : lo k = nI e.2.2.1) (e4 : tw k = nI e.2.2.2.1) (e5 : wa k = nI e.2.2.2.2) {row wi : Nat → Int32} (hr : ∀ p, p < 6 → row (38 + p) = wi p) {i : Nat} (hi : i < 2 ^ 31) (x5 : Int32) {t : Nat} (he : e.2.1 = t) (rc : Int32 → Int32 → Option (Int32 × Int32 × (Nat → Int32) × (Nat → Int32) × (Nat → Int32) × (Nat → Int32) × (Nat → Int32))) : ∀ (d p n fu : Nat), p + d = 6 → d < fu → n ≤ i → f_X10_led_L85 rc m row ca ti lo tw wa (nI i) x5 (nI t) (nI k) fu (nI n) (nI p) = match scn (mkN wi e.1 6) i d p n with | .inl n' => rc (nI n') (nI (k + 1)) | .inr q => some (resL x5 t e q, m, ca, ti, lo, tw, wa) := by
  intro d
  induction d with
  | zero =>
    intro p n fu hp hn hni
    obtain ⟨fu, rfl⟩ : ∃ m, fu = m + 1 := ⟨fu - 1, by omega⟩
    have : p = 6 := by omega
    subst this
    rw [f_X10_led_L85, if_pos (show (6 : Int32) ≤ nI 6 by decide), scn]
    unfold f_X10_led_J201
    rw [st1]
  | succ d ih =>
    intro p n fu hp hn hni
    obtain ⟨fu, rfl⟩ : ∃ m, fu = m + 1 := ⟨fu - 1, by omega⟩
    have hp6 : p < 6 := by omega
    have hbit := mkN_bit wi e.1 6 p hp6
    rw [f_X10_led_L85, if_neg (show ¬ (6 : Int32) ≤ nI p from nI_ge (b := 6) hp6 (by decide))]
    simp only [show (38 : Int32) + nI p = nI (38 + p) from nI_add 38 p, gd_t (ib_nI hk (show 480 < 2 ^ 31 by decide)), gd_t (ib_nI (show 38 + p < 558 by omega) (by decide)), nI_clamp (show k < 2 ^ 31 by omega), nI_clamp (show 38 + p < 2 ^ 31 by omega), hr p hp6, e1, if_pos (show ti k = nI t by rw [e2, he])]
    rw [scn]
    unfold f_X10_led_J195
    simp only [st1]
    by_cases q : wi p = nI e.1
    · rw [if_pos q, if_pos (hbit.mpr q)]
      by_cases z : n = i
      · rw [if_pos (by rw [z]), if_pos z]
        unfold f_X10_led_J131 resL
        simp only [gd_t (ib_nI hk (by decide)), nI_clamp (show k < 2 ^ 31 by omega), e3, e4, e5]
        by_cases c0 : x5 = 0
        · simp only [if_pos c0]
        · by_cases c1 : x5 = 1
          · simp only [if_neg c0, if_pos c1]
          · by_cases c2 : x5 = 2
            · simp only [if_neg c0, if_neg c1, if_pos c2]
            · by_cases c3 : x5 = 3
              · simp only [if_neg c0, if_neg c1, if_neg c2, if_pos c3]
              · simp only [if_neg c0, if_neg c1, if_neg c2, if_neg c3]
      · rw [if_neg (fun y => z ((nI_eq (by omega) hi).mp y)), if_neg z]
        exact ih (p + 1) (n + 1) fu (by omega) (by omega) (by omega)
    · rw [if_neg q, if_neg (fun y => q (hbit.mp y))]
      exact ih (p + 1) n fu (by omega) (by omega) hni
theorem led_L73 {L : List (Nat × Nat × Nat × Nat × Nat)} {ca ti lo tw wa : Nat → Int32} (hL : LayS L (nI L.length, ca, ti, lo, tw, wa)) (h480 : L.length ≤ 480) (h60 : ∀ e ∈ L, e.2.1 ≤ 60) {row wi : Nat → Int32} (hr : ∀ p, p < 6 → row (38 + p) = wi p) {i : Nat} (hi : i < 2 ^ 31) (x5 : Int32) {t : Nat} (ht : t ≤ 60) (rc : Int32 → Int32 → Option (Int32 × Int32 × (Nat → Int32) × (Nat → Int32) × (Nat → Int32) × (Nat → Int32) × (Nat → Int32))) : ∀ (d k n fu : Nat), k + d = L.length → d < fu → n ≤ i → f_X10_led_L73 rc (nI L.length) row ca ti lo tw wa (nI i) x5 (nI t) fu (nI n) (nI k) = outL (fun n' => rc (nI n') (nI (t + 1))) (fun e p => some (resL x5 t e p, nI L.length, ca, ti, lo, tw, wa)) (scanL wi i ((L.drop k).filter (fun e => e.2.1 = t)) n) := by
  intro d
  induction d with
  | zero =>
    intro k n fu hk hn hni
    obtain ⟨fu, rfl⟩ : ∃ m, fu = m + 1 := ⟨fu - 1, by omega⟩
    have : k = L.length := by omega
    subst this
    rw [f_X10_led_L73, if_pos (nI_le (Nat.le_refl _) (by omega)), List.drop_length]
    unfold f_X10_led_J207
    rw [st1]
    rfl
  | succ d ih =>
    intro k n fu hk hn hni
    obtain ⟨fu, rfl⟩ : ∃ m, fu = m + 1 := ⟨fu - 1, by omega⟩
    have hkl : k < L.length := by omega
    have he : L[k]? = some L[k] := List.getElem?_eq_getElem hkl
    obtain ⟨e1, e2, e3, e4, e5⟩ := hL.2 k _ he
    have h6 := h60 _ (mem_of_get he)
    rw [f_X10_led_L73, if_neg (nI_ge hkl (by omega)), List.drop_eq_getElem_cons hkl, List.filter_cons]
    by_cases q : (L[k]).2.1 = t
    · have := led_L85 (m := nI L.length) (show k < 480 by omega) e1 e2 e3 e4 e5 hr hi x5 q (f_X10_led_L73 rc (nI L.length) row ca ti lo tw wa (nI i) x5 (nI t) fu) 6 0 n FU (by decide) (by decide) hni
      have this' : f_X10_led_L85 (f_X10_led_L73 rc (nI L.length) row ca ti lo tw wa (nI i) x5 (nI t) fu) (nI L.length) row ca ti lo tw wa (nI i) x5 (nI t) (nI k) FU (nI n) 0 = _ := this
      rw [this', if_pos (decide_eq_true q), scanL]
      cases hs : scn (mkN wi (L[k]).1 6) i 6 0 n with
      | inl n' => exact ih (k + 1) n' fu (by omega) (by omega) (scn_le _ _ _ _ _ _ hni hs)
      | inr p => rfl
    · have hq : ¬ (decide ((L[k]).2.1 = t) = true) := fun y => q (of_decide_eq_true y)
      rw [if_neg hq]
      have hne : ¬ ti k = nI t := by
        intro y
        rw [show ti k = nI (L[k]).2.1 from e2] at y
        exact q ((nI_eq (by omega) (by omega)).mp y)
      have hx : f_X10_led_L85 (f_X10_led_L73 rc (nI L.length) row ca ti lo tw wa (nI i) x5 (nI t) fu) (nI L.length) row ca ti lo tw wa (nI i) x5 (nI t) (nI k) (4999 + 1) (nI n) 0 = f_X10_led_L73 rc (nI L.length) row ca ti lo tw wa (nI i) x5 (nI t) fu (nI n) (nI (k + 1)) := by
        rw [f_X10_led_L85, if_neg (show ¬ (6 : Int32) ≤ 0 by decide)]
        simp only [gd_t (ib_nI (show k < 480 by omega) (show 480 < 2 ^ 31 by decide)), nI_clamp (show k < 2 ^ 31 by omega), if_neg hne]
        unfold f_X10_led_J201
        rw [st1]
      have hx' : f_X10_led_L85 (f_X10_led_L73 rc (nI L.length) row ca ti lo tw wa (nI i) x5 (nI t) fu) (nI L.length) row ca ti lo tw wa (nI i) x5 (nI t) (nI k) FU (nI n) 0 = f_X10_led_L73 rc (nI L.length) row ca ti lo tw wa (nI i) x5 (nI t) fu (nI n) (nI (k + 1)) := hx
      rw [hx']
      exact ih (k + 1) n fu (by omega) (by omega) hni
theorem scanL_le (wi : Nat → Int32) (i : Nat) : ∀ (L : List (Nat × Nat × Nat × Nat × Nat)) n n', n ≤ i → scanL wi i L n = .inl n' → n' ≤ i := by
  intro L
  induction L with
  | nil => intro n n' h e; cases e; exact h
  | cons x r ih =>
    intro n n' h e
    rw [scanL] at e
    cases hs : scn (mkN wi x.1 6) i 6 0 n with
    | inl k => rw [hs] at e; exact ih k n' (scn_le _ _ _ _ _ _ h hs) e
    | inr p => rw [hs] at e; cases e
theorem led_both {W : Nat → List (Option (Nat × Nat × Nat))} {a b : Nat} (ha : a ≤ 6) (hb : b ≤ 6) {gr : Nat → Int32} (hW : okW W a b gr) {marks lasting : Nat → Int32} (hv : Wv W 8 marks lasting) {ca ti lo tw wa : Nat → Int32} (hL : LayS (lsU W 8) (nI (lsU W 8).length, ca, ti, lo, tw, wa)) {row wi : Nat → Int32} (hr : ∀ p, p < 6 → row (38 + p) = wi p) {i : Nat} (hi : i < 2 ^ 31) (x5 : Int32) : ∀ (d t n f1 f2 : Nat), t + d = 61 → 1 ≤ t → d < f1 → d < f2 → n ≤ i → ∃ r, f_X9_led_L74 (nI a) (nI b) wi marks lasting (nI i) x5 f1 (nI n) (nI t) = some (r, marks, lasting) ∧ f_X10_led_L63 (nI (lsU W 8).length) row ca ti lo tw wa (nI i) x5 f2 (nI n) (nI t) = some (r, nI (lsU W 8).length, ca, ti, lo, tw, wa) := by
  have hbb := lsU_b ha hb hW
  have h480 := lsU480 hW
  intro d
  induction d with
  | zero =>
    intro t n f1 f2 hk h1 hf1 hf2 hni
    obtain ⟨f1, rfl⟩ : ∃ m, f1 = m + 1 := ⟨f1 - 1, by omega⟩
    obtain ⟨f2, rfl⟩ : ∃ m, f2 = m + 1 := ⟨f2 - 1, by omega⟩
    have : t = 61 := by omega
    subst this
    refine ⟨-1, ?_, ?_⟩
    · rw [f_X9_led_L74, if_pos (show (60 : Int32) < nI 61 by decide)]
    · rw [f_X10_led_L63, if_pos (show (61 : Int32) ≤ nI 61 by decide)]
  | succ d ih =>
    intro t n f1 f2 hk h1 hf1 hf2 hni
    obtain ⟨f1, rfl⟩ : ∃ m, f1 = m + 1 := ⟨f1 - 1, by omega⟩
    obtain ⟨f2, rfl⟩ : ∃ m, f2 = m + 1 := ⟨f2 - 1, by omega⟩
    have h84 := led_L84 ha hb hW hv wi hi x5 h1 (show t ≤ 60 by omega) (f_X9_led_L74 (nI a) (nI b) wi marks lasting (nI i) x5 f1) 8 0 n FU rfl (by decide) hni
    have h73 := led_L73 hL h480 (fun e he => (hbb e he).2.1) hr hi x5 (show t ≤ 60 by omega) (f_X10_led_L63 (nI (lsU W 8).length) row ca ti lo tw wa (nI i) x5 f2) (lsU W 8).length 0 n FU (Nat.zero_add _) (by have : FU = 5000 := rfl; omega) hni
    rw [evF_eq W h1] at h84
    rw [List.drop_zero] at h73
    have h84' : f_X9_led_L84 (f_X9_led_L74 (nI a) (nI b) wi marks lasting (nI i) x5 f1) (nI a) (nI b) wi marks lasting (nI i) x5 (nI t) FU (nI n) 0 = _ := h84
    have h73' : f_X10_led_L73 (f_X10_led_L63 (nI (lsU W 8).length) row ca ti lo tw wa (nI i) x5 f2) (nI (lsU W 8).length) row ca ti lo tw wa (nI i) x5 (nI t) FU (nI n) 0 = _ := h73
    rw [f_X9_led_L74, if_neg (show ¬ (60 : Int32) < nI t from fun q => absurd ((nI_ltI (a := 60) (by decide) (by omega)).mp q) (by omega)), h84', f_X10_led_L63, if_neg (show ¬ (61 : Int32) ≤ nI t from nI_ge (b := 61) (by omega) (by decide)), h73']
    cases hs : scanL wi i ((lsU W 8).filter (fun e => e.2.1 = t)) n with
    | inl n' => exact ih (t + 1) n' f1 f2 (by omega) (by omega) (by omega) (by omega) (scanL_le _ _ _ _ _ hni hs)
    | inr z => exact ⟨_, rfl, rfl⟩
theorem in_04 (x : Int32) : f_X10_in x.toInt64 0 4 = some (if 0 ≤ x ∧ x ≤ 4 then 1 else 0) := in_32 x 0 4
set_option maxRecDepth 20000 in
theorem ob_led : Ob_led RR := by
  intro X XA XL Y YA x1 x2 x3 x4 x5 hx h
  obtain ⟨a, b, f, ha1, ha, hb1, hb, hf, e5, e6, e7, y5, r0, r1, hG, hR, hwin⟩ := RR_sc h
  have h36 := mul_le36 ha hb
  unfold f_X9_led f_X10_led
  rw [in_04]
  rcases ccase (gr := XA 2) (wi := XA 3) ha1 ha hb1 hb e5 e6 r0 r1 x1 with ⟨c, hc, rfl, q1, q2⟩ | ⟨q1, q2⟩
  · rcases lcase x2 with ⟨l, hl1, hl, rfl, q5, q6⟩ | ⟨q5, q6⟩
    · by_cases x40 : x4 < 0
      · simp only [q1, q2, q5, q6, bN, i10, if_pos x40]
        exact ⟨_, _, rfl, rfl, rfl, h⟩
      · by_cases w0 : x5 < 0
        · simp only [q1, q2, q5, q6, bN, i10, i00, if_neg x40, if_pos w0, if_neg (fun q : 0 ≤ x5 ∧ x5 ≤ 4 => absurd q.1 (Int32.not_le.mpr w0))]
          exact ⟨_, _, rfl, rfl, rfl, h⟩
        · by_cases w3 : x5 ≤ 4
          · simp only [q1, q2, q5, q6, bN, i10, if_neg x40, if_neg w0, if_pos w3, if_pos (show 0 ≤ x5 ∧ x5 ≤ 4 from ⟨Int32.not_lt.mp w0, w3⟩), isRockC (XA 2) e5 e6 ha hb hc, isFloorM (YA 0) (show c < 36 by omega), hR.2.2 c (by omega)]
            by_cases g1 : XA 2 c = -1
            · obtain ⟨mk, la, s1, hv⟩ := spreadC hG ha1 ha hb hf x3 hc hl (XA 35) (XA 36)
              obtain ⟨⟨m, ca, ti, lo, tw, wa⟩, s2, hLay⟩ := laySoundsM hG hR ha1 ha hb1 hb hf x3 hc hl1 hl (Y 12) (YA 6) (YA 7) (YA 8) (YA 9) (YA 10)
              have hW := okWy ha hb (XA 2) f x3 hc hl
              have hm : m = nI (lsU (Wy a b (XA 2) f x3 c l) 8).length := hLay.1
              subst hm
              obtain ⟨i, hi, rfl⟩ := nI_of x40
              obtain ⟨r, k1, k2⟩ := led_both ha hb hW hv hLay (fun p hp => (hwin p hp).1) hi x5 60 1 0 FU FU (by decide) (by decide) (by decide) (by decide) (Nat.zero_le _)
              rw [← e5, ← e6, ← e7] at s1
              rw [← y5] at s2
              rw [← e5, ← e6] at k1
              have k1' : f_X9_led_L74 (X 5) (X 6) (XA 3) mk la (nI i) x5 FU 0 1 = some (r, mk, la) := k1
              have k2' : f_X10_led_L63 (nI (lsU (Wy a b (XA 2) f x3 c l) 8).length) (YA 0) ca ti lo tw wa (nI i) x5 FU 0 1 = some (r, nI (lsU (Wy a b (XA 2) f x3 c l) 8).length, ca, ti, lo, tw, wa) := k2
              simp only [if_pos g1, i10, i00, s1, s2, bN, k1', k2']
              exact ⟨_, _, rfl, rfl, rfl, h⟩
            · simp only [if_neg g1, i10, i00]
              exact ⟨_, _, rfl, rfl, rfl, h⟩
          · simp only [q1, q2, q5, q6, bN, i10, i00, if_neg x40, if_neg w0, if_neg w3, if_neg (fun q : 0 ≤ x5 ∧ x5 ≤ 4 => w3 q.2)]
            exact ⟨_, _, rfl, rfl, rfl, h⟩
    · simp only [q1, q2, q5, q6, bN, i10, i00]
      exact ⟨_, _, rfl, rfl, rfl, h⟩
  · simp only [q1, q2, bN, i00]
    exact ⟨_, _, rfl, rfl, rfl, h⟩
end M61
