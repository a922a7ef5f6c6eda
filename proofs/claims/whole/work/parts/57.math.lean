section M57
theorem bv_nI (k : Nat) : (nI k).toBitVec = BitVec.ofNat 32 k := rfl
theorem and_mask {s k : Nat} (hs : s < 2 ^ 31) (hk : k < 31) : nI s &&& nI (2 ^ k - 1) = nI (s % 2 ^ k) := by
  have h2 : 2 ^ k ≤ 2 ^ 31 := Nat.pow_le_pow_right (by decide) (by omega)
  have h3 : s % 2 ^ k ≤ s := Nat.mod_le _ _
  apply Int32.toBitVec_inj.mp
  apply BitVec.eq_of_toNat_eq
  rw [Int32.toBitVec_and, bv_nI, bv_nI, bv_nI, BitVec.toNat_and, BitVec.toNat_ofNat, BitVec.toNat_ofNat, BitVec.toNat_ofNat, Nat.mod_eq_of_lt (show s < 2 ^ 32 by omega), Nat.mod_eq_of_lt (show 2 ^ k - 1 < 2 ^ 32 by omega), Nat.mod_eq_of_lt (show s % 2 ^ k < 2 ^ 32 by omega), Nat.and_two_pow_sub_one_eq_mod]
theorem shr_nI {s k : Nat} (hs : s < 2 ^ 31) (hk : k < 31) : nI s >>> (nI k &&& 31) = nI (s / 2 ^ k) := by
  have en : nI k &&& 31 = nI k := by
    have : ∀ n, n < 31 → nI n &&& 31 = nI n := by decide
    exact this k hk
  have h3 : s / 2 ^ k ≤ s := Nat.div_le_self _ _
  have e2 : (BitVec.smod (BitVec.ofNat 32 k) 32) = BitVec.ofNat 32 k := by
    have : ∀ n, n < 31 → (BitVec.smod (BitVec.ofNat 32 n) 32) = BitVec.ofNat 32 n := by decide
    exact this k hk
  have hm : (BitVec.ofNat 32 s).msb = false := by
    rw [BitVec.msb_eq_false_iff_two_mul_lt, BitVec.toNat_ofNat, Nat.mod_eq_of_lt (by omega)]
    omega
  rw [en]
  apply Int32.toBitVec_inj.mp
  apply BitVec.eq_of_toNat_eq
  rw [Int32.toBitVec_shiftRight, bv_nI, bv_nI, bv_nI, e2, BitVec.sshiftRight_eq', BitVec.sshiftRight_eq_of_msb_false hm, BitVec.toNat_ushiftRight, BitVec.toNat_ofNat, BitVec.toNat_ofNat, BitVec.toNat_ofNat, Nat.mod_eq_of_lt (show s < 2 ^ 32 by omega), Nat.mod_eq_of_lt (show k < 2 ^ 32 by omega), Nat.mod_eq_of_lt (show s / 2 ^ k < 2 ^ 32 by omega), Nat.shiftRight_eq_div_pow]
theorem enc_lt {v : Nat × Nat × Nat} (h1 : v.1 < 36) (h2 : v.2.1 < 128) (h3 : v.2.2 ≤ 120) : 8192 * v.2.2 + 64 * v.2.1 + (v.1 + 1) < 2 ^ 31 := by omega
theorem cellOf_enc {v : Nat × Nat × Nat} (h1 : v.1 < 36) (h2 : v.2.1 < 128) (h3 : v.2.2 ≤ 120) : f_X8_cellOf (enc (some v)) = some (nI v.1) := by
  unfold f_X8_cellOf enc
  rw [show (63 : Int32) = nI (2 ^ 6 - 1) from rfl, and_mask (enc_lt h1 h2 h3) (by decide), show (1 : Int32) = nI 1 from rfl, nI_sub' (by omega)]
  congr 2
  omega
theorem cellOf_0 : f_X8_cellOf (enc none) = some (-1) := rfl
theorem thrownOf_enc {v : Nat × Nat × Nat} (h1 : v.1 < 36) (h2 : v.2.1 < 128) (h3 : v.2.2 ≤ 120) : f_X8_thrownOf (enc (some v)) = some (nI v.2.2) := by
  unfold f_X8_thrownOf enc
  rw [show (13 : Int32) = nI 13 from rfl, shr_nI (enc_lt h1 h2 h3) (by decide)]
  congr 2
  omega
theorem loudOf_enc {v : Nat × Nat × Nat} (h1 : v.1 < 36) (h2 : v.2.1 < 128) (h3 : v.2.2 ≤ 120) : f_X8_loudOf (enc (some v)) = some (nI v.2.1) := by
  unfold f_X8_loudOf enc
  have := enc_lt h1 h2 h3
  rw [show (6 : Int32) = nI 6 from rfl, shr_nI this (by decide), show (127 : Int32) = nI (2 ^ 7 - 1) from rfl, and_mask (by omega) (by decide)]
  congr 2
  omega
theorem enc_inj {v v' : Nat × Nat × Nat} (h1 : v.1 < 36) (h2 : v.2.1 < 128) (h3 : v.2.2 ≤ 120) (h1' : v'.1 < 36) (h2' : v'.2.1 < 128) (h3' : v'.2.2 ≤ 120) (h : enc (some v) = enc (some v')) : v = v' := by
  unfold enc at h
  rw [nI_eq (enc_lt h1 h2 h3) (enc_lt h1' h2' h3')] at h
  exact Prod.ext (by omega) (Prod.ext (by omega) (by omega))
theorem enc_ne0 {v : Nat × Nat × Nat} (h1 : v.1 < 36) (h2 : v.2.1 < 128) (h3 : v.2.2 ≤ 120) : ¬ enc (some v) = 0 := by
  unfold enc
  intro h
  have := (nI_eq (enc_lt h1 h2 h3) (by decide)).mp (show nI _ = nI 0 from h)
  omega
/-- what comes on a way at a tick -/
def sp (W : Nat → List (Option (Nat × Nat × Nat))) (w t : Nat) : Option (Nat × Nat × Nat) := ((W w)[t - 1]?).join
def okW (W : Nat → List (Option (Nat × Nat × Nat))) (a b : Nat) (gr : Nat → Int32) : Prop := ∀ w, w < 8 → (W w).length ≤ 60 ∧ ∀ v, some v ∈ W w → okS a b gr 60 v
theorem okWy {a b : Nat} (ha : a ≤ 6) (hb : b ≤ 6) (gr : Nat → Int32) (f : Nat) (hi : Int32) {c l : Nat} (hc : c < a * b) (hl : l ≤ 99) : okW (Wy a b gr f hi c l) a b gr := fun w hw => ⟨pth_len _ _ _ _ _ _ _ _ _ _, fun v hv => by
  have := pth_ok ha hb gr f hi 60 c w l 0 hc hw hl v hv
  rw [Nat.zero_add] at this
  exact this⟩
theorem soundOf_sp {W : Nat → List (Option (Nat × Nat × Nat))} {marks lasting : Nat → Int32} (hv : Wv W 8 marks lasting) {w t : Nat} (hw : w < 8) (h1 : 1 ≤ t) (h60 : t ≤ 60) : f_X8_soundOf marks lasting (nI w) (nI t) = some (enc (sp W w t)) := by
  obtain ⟨e1, e2, e3⟩ := hv w hw
  unfold f_X8_soundOf sp
  rw [if_neg (nI_pos (by omega)), if_neg (show ¬ (8 : Int32) ≤ nI w from nI_ge (b := 8) hw (by decide)), if_neg (show ¬ nI t < 1 from fun q => absurd ((nI_ltI (b := 1) (by omega) (by decide)).mp q) (by omega)), gd_t (ib_nI hw (by decide)), nI_clamp (by omega), e1, ix60 h1]
  by_cases h : t ≤ (W w).length
  · rw [if_pos (nI_le h (by omega)), gd_t (ib_nI (by omega) (by decide)), nI_clamp (by omega)]
    have hx : (W w)[t - 1]? = some ((W w)[t - 1]'(by omega)) := List.getElem?_eq_getElem (by omega)
    rw [e3 _ _ hx, hx]
    rfl
  · rw [if_neg (nI_ge (by omega) (by omega)), List.getElem?_eq_none (by omega)]
    rfl
theorem soundOf_i {W : Nat → List (Option (Nat × Nat × Nat))} {marks lasting : Nat → Int32} (hv : Wv W 8 marks lasting) {w i : Nat} (hw : w < 8) {e : Option (Nat × Nat × Nat)} (he : (W w)[i]? = some e) : f_X8_soundOf marks lasting (nI w) (nI (i + 1)) = some (enc e) := by
  have hi : i < (W w).length := by
    rcases Nat.lt_or_ge i (W w).length with q | q
    · exact q
    · rw [List.getElem?_eq_none q] at he; cases he
  rw [soundOf_sp hv hw (by omega) (by have := (hv w hw).2.1; omega)]
  unfold sp
  rw [Nat.add_sub_cancel, he]
  rfl
theorem lastTick_nI {W : Nat → List (Option (Nat × Nat × Nat))} {marks lasting : Nat → Int32} (hv : Wv W 8 marks lasting) {w : Nat} (hw : w < 8) : f_X8_lastTickOf lasting (nI w) = some (nI (W w).length) := by
  unfold f_X8_lastTickOf
  rw [if_neg (nI_pos (by omega)), if_pos (show nI w < 8 from nI_lt (b := 8) hw (by decide)), gd_t (ib_nI hw (by decide)), nI_clamp (by omega), (hv w hw).1]
/-! loops over ways and ticks, and over the reference's rows -/
def stepE {σ : Type} (g : σ → Nat × Nat × Nat × Nat × Nat → σ) (w t : Nat) (s : σ) : Option (Nat × Nat × Nat) → σ
  | none => s
  | some v => g s (v.1, t, v.2.1, v.2.2, w)
theorem g_in {σ τ : Type} (w : Nat) (P : List (Option (Nat × Nat × Nat))) (g : σ → Nat × Nat × Nat × Nat × Nat → σ) (F : Nat → σ → Int32 → Option τ) (K : σ → Option τ) (hend : ∀ n s, F (n + 1) s (nI (P.length + 1)) = K s) (hstep : ∀ n s i e, P[i]? = some e → F (n + 1) s (nI (i + 1)) = F n (stepE g w (i + 1) s e) (nI (i + 1 + 1))) : ∀ d i n s, i + d = P.length → d < n → F n s (nI (i + 1)) = K ((ents w (i + 1) (P.drop i)).foldl g s) := by
  intro d
  induction d with
  | zero =>
    intro i n s hk hn
    obtain ⟨n, rfl⟩ : ∃ m, n = m + 1 := ⟨n - 1, by omega⟩
    have : i = P.length := by omega
    subst this
    rw [hend, List.drop_length]
    rfl
  | succ d ih =>
    intro i n s hk hn
    obtain ⟨n, rfl⟩ : ∃ m, n = m + 1 := ⟨n - 1, by omega⟩
    have hi : i < P.length := by omega
    rw [hstep n s i _ (List.getElem?_eq_getElem hi), List.drop_eq_getElem_cons hi, ih (i + 1) n _ (by omega) (by omega)]
    cases P[i] with
    | none => rfl
    | some v => rfl
theorem g_out {σ τ : Type} (W : Nat → List (Option (Nat × Nat × Nat))) (g : σ → Nat × Nat × Nat × Nat × Nat → σ) (G : Nat → σ → Int32 → Option τ) (R : σ → Option τ) (hend : ∀ n s, G (n + 1) s (nI 8) = R s) (hstep : ∀ n s w, w < 8 → G (n + 1) s (nI w) = G n ((ents w 1 (W w)).foldl g s) (nI (w + 1))) : ∀ d w n s, w + d = 8 → d < n → G n ((lsU W w).foldl g s) (nI w) = R ((lsU W 8).foldl g s) := by
  intro d
  induction d with
  | zero =>
    intro w n s hk hn
    obtain ⟨n, rfl⟩ : ∃ m, n = m + 1 := ⟨n - 1, by omega⟩
    have : w = 8 := by omega
    subst this
    rw [hend]
  | succ d ih =>
    intro w n s hk hn
    obtain ⟨n, rfl⟩ : ∃ m, n = m + 1 := ⟨n - 1, by omega⟩
    rw [hstep n _ w (by omega)]
    have := ih (w + 1) n s (by omega) (by omega)
    rw [lsU, List.foldl_append] at this
    exact this
theorem g_ref {σ τ : Type} (L : List (Nat × Nat × Nat × Nat × Nat)) (g : σ → Nat × Nat × Nat × Nat × Nat → σ) (H : Nat → σ → Int32 → Option τ) (R : σ → Option τ) (hend : ∀ n s, H (n + 1) s (nI L.length) = R s) (hstep : ∀ n s k e, L[k]? = some e → H (n + 1) s (nI k) = H n (g s e) (nI (k + 1))) : ∀ d k n s, k + d = L.length → d < n → H n s (nI k) = R ((L.drop k).foldl g s) := by
  intro d
  induction d with
  | zero =>
    intro k n s hk hn
    obtain ⟨n, rfl⟩ : ∃ m, n = m + 1 := ⟨n - 1, by omega⟩
    have : k = L.length := by omega
    subst this
    rw [hend, List.drop_length]
    rfl
  | succ d ih =>
    intro k n s hk hn
    obtain ⟨n, rfl⟩ : ∃ m, n = m + 1 := ⟨n - 1, by omega⟩
    have hi : k < L.length := by omega
    rw [hstep n s k _ (List.getElem?_eq_getElem hi), List.drop_eq_getElem_cons hi, ih (k + 1) n _ (by omega) (by omega)]
    rfl
theorem lt_of_get {α : Type} {L : List α} {i : Nat} {e : α} (h : L[i]? = some e) : i < L.length := by
  rcases Nat.lt_or_ge i L.length with q | q
  · exact q
  · rw [List.getElem?_eq_none q] at h; cases h
theorem mem_of_get {α : Type} {L : List α} {i : Nat} {e : α} (h : L[i]? = some e) : e ∈ L := List.mem_of_getElem? h
theorem mem_ents {w0 : Nat} {e : Nat × Nat × Nat × Nat × Nat} : ∀ (P : List (Option (Nat × Nat × Nat))) (t : Nat), e ∈ ents w0 t P ↔ ∃ i v, P[i]? = some (some v) ∧ e = (v.1, t + i, v.2.1, v.2.2, w0) := by
  intro P
  induction P with
  | nil => intro t; exact ⟨fun h => absurd h (List.not_mem_nil), fun ⟨i, v, h, _⟩ => by simp at h⟩
  | cons x r ih =>
    intro t
    cases x with
    | none =>
      rw [ents, ih (t + 1)]
      constructor
      · rintro ⟨i, v, h1, h2⟩
        exact ⟨i + 1, v, by simpa using h1, by rw [h2, show t + 1 + i = t + (i + 1) by omega]⟩
      · rintro ⟨i, v, h1, h2⟩
        cases i with
        | zero => simp at h1
        | succ i => exact ⟨i, v, by simpa using h1, by rw [h2, show t + 1 + i = t + (i + 1) by omega]⟩
    | some u =>
      rw [ents, List.mem_cons, ih (t + 1)]
      constructor
      · rintro (h | ⟨i, v, h1, h2⟩)
        · exact ⟨0, u, rfl, h⟩
        · exact ⟨i + 1, v, by simpa using h1, by rw [h2, show t + 1 + i = t + (i + 1) by omega]⟩
      · rintro ⟨i, v, h1, h2⟩
        cases i with
        | zero =>
          have : u = v := by simpa using h1
          subst this
          exact Or.inl h2
        | succ i => exact Or.inr ⟨i, v, by simpa using h1, by rw [h2, show t + 1 + i = t + (i + 1) by omega]⟩
theorem mem_lsU {W : Nat → List (Option (Nat × Nat × Nat))} {e : Nat × Nat × Nat × Nat × Nat} : ∀ k, e ∈ lsU W k ↔ ∃ w t v, w < k ∧ 1 ≤ t ∧ sp W w t = some v ∧ e = (v.1, t, v.2.1, v.2.2, w) := by
  intro k
  induction k with
  | zero => exact ⟨fun h => absurd h (List.not_mem_nil), fun ⟨w, t, v, h, _⟩ => absurd h (Nat.not_lt_zero w)⟩
  | succ k ih =>
    rw [lsU, List.mem_append, ih, mem_ents]
    constructor
    · rintro (⟨w, t, v, h1, h2⟩ | ⟨i, v, h1, h2⟩)
      · exact ⟨w, t, v, by omega, h2⟩
      · exact ⟨k, 1 + i, v, by omega, by omega, by unfold sp; rw [Nat.add_sub_cancel_left, h1]; rfl, h2⟩
    · rintro ⟨w, t, v, h1, h2, h3, h4⟩
      by_cases hw : w = k
      · subst hw
        refine Or.inr ⟨t - 1, v, ?_, by rw [h4, show 1 + (t - 1) = t by omega]⟩
        unfold sp at h3
        cases hx : (W w)[t - 1]? with
        | none => rw [hx] at h3; cases h3
        | some x => rw [hx] at h3; have : x = some v := h3; rw [this]
      · exact Or.inl ⟨w, t, v, by omega, h2, h3, h4⟩
theorem sp_ok {W : Nat → List (Option (Nat × Nat × Nat))} {a b : Nat} {gr : Nat → Int32} (hW : okW W a b gr) {w t : Nat} (hw : w < 8) {v : Nat × Nat × Nat} (h : sp W w t = some v) (h1 : 1 ≤ t) : okS a b gr 60 v ∧ t ≤ 60 := by
  unfold sp at h
  cases hx : (W w)[t - 1]? with
  | none => rw [hx] at h; cases h
  | some x =>
    rw [hx] at h
    have : x = some v := h
    subst this
    have := lt_of_get hx
    have := (hW w hw).1
    exact ⟨(hW w hw).2 v (mem_of_get hx), by omega⟩
end M57
