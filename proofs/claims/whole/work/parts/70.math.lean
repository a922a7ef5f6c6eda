section M70
/-! changed: the same sounds -/
def cdN (e : Nat × Nat × Nat × Nat × Nat) : Nat := ((e.1 * 64 + e.2.1) * 128 + e.2.2.1) * 64 + e.2.2.2.1
def cn (x : Nat) : List (Nat × Nat × Nat × Nat × Nat) → Nat
  | [] => 0
  | e :: r => (if cdN e = x then 1 else 0) + cn x r
theorem cn_append (x : Nat) (M : List (Nat × Nat × Nat × Nat × Nat)) : ∀ L, cn x (L ++ M) = cn x L + cn x M := by
  intro L
  induction L with
  | nil => simp [cn]
  | cons e r ih => rw [List.cons_append, cn, cn, ih]; omega
theorem cn_le (x : Nat) : ∀ L, cn x L ≤ L.length := by
  intro L
  induction L with
  | nil => exact Nat.le_refl 0
  | cons e r ih => rw [cn, List.length_cons]; split <;> omega
def gCn (x : Nat) (s : Nat) (e : Nat × Nat × Nat × Nat × Nat) : Nat := if cdN e = x then s + 1 else s
theorem cn_fold (x : Nat) : ∀ (L : List (Nat × Nat × Nat × Nat × Nat)) (s : Nat), L.foldl (gCn x) s = s + cn x L := by
  intro L
  induction L with
  | nil => intro s; rfl
  | cons e r ih =>
    intro s
    rw [List.foldl_cons, ih, cn]
    unfold gCn
    split <;> omega
def hoW (W : Nat → List (Option (Nat × Nat × Nat))) (t : Nat) (v : Nat × Nat × Nat) : Nat → Nat
  | 0 => 0
  | k + 1 => hoW W t v k + (if sp W k t = some v then 1 else 0)
theorem hoW_le (W : Nat → List (Option (Nat × Nat × Nat))) (t : Nat) (v : Nat × Nat × Nat) : ∀ k, hoW W t v k ≤ k := by
  intro k
  induction k with
  | zero => exact Nat.le_refl 0
  | succ k ih => rw [hoW]; split <;> omega
theorem cd_eq {u v : Nat × Nat × Nat} {t0 t w w' : Nat} (hu : u.1 < 36 ∧ u.2.1 < 128 ∧ u.2.2 ≤ 60) (hv : v.1 < 36 ∧ v.2.1 < 128 ∧ v.2.2 ≤ 60) (h0 : t0 < 64) (ht : t < 64) : cdN (u.1, t0, u.2.1, u.2.2, w) = cdN (v.1, t, v.2.1, v.2.2, w') ↔ t0 = t ∧ u = v := by
  unfold cdN
  constructor
  · intro h
    have h : ((u.1 * 64 + t0) * 128 + u.2.1) * 64 + u.2.2 = ((v.1 * 64 + t) * 128 + v.2.1) * 64 + v.2.2 := h
    exact ⟨by omega, Prod.ext (by omega) (Prod.ext (by omega) (by omega))⟩
  · rintro ⟨rfl, rfl⟩
    rfl
theorem cn_ents (w w' : Nat) {v : Nat × Nat × Nat} (hv : v.1 < 36 ∧ v.2.1 < 128 ∧ v.2.2 ≤ 60) {t : Nat} (ht : t < 64) : ∀ (P : List (Option (Nat × Nat × Nat))) (t0 : Nat), t0 + P.length ≤ 62 → (∀ u, some u ∈ P → u.1 < 36 ∧ u.2.1 < 128 ∧ u.2.2 ≤ 60) → cn (cdN (v.1, t, v.2.1, v.2.2, w')) (ents w t0 P) = if t0 ≤ t ∧ (P[t - t0]?).join = some v then 1 else 0 := by
  intro P
  induction P with
  | nil => intro t0 _ _; simp [ents, cn]
  | cons e r ih =>
    intro t0 hl hb
    rw [List.length_cons] at hl
    have ih' := ih (t0 + 1) (by omega) (fun u hu => hb u (List.mem_cons_of_mem _ hu))
    have hshift : ∀ e' : Option (Nat × Nat × Nat), t0 < t → (e' :: r)[t - t0]? = r[t - (t0 + 1)]? := fun e' h => by
      rw [show t - t0 = (t - (t0 + 1)) + 1 by omega, List.getElem?_cons_succ]
    cases e with
    | none =>
      rw [ents, ih']
      rcases Nat.lt_trichotomy t0 t with q | q | q
      · rw [hshift none q]
        by_cases z : (r[t - (t0 + 1)]?).join = some v
        · rw [if_pos ⟨by omega, z⟩, if_pos ⟨by omega, z⟩]
        · rw [if_neg (fun y => z y.2), if_neg (fun y => z y.2)]
      · subst q
        rw [if_neg (by omega), if_neg (fun y => ?_)]
        have := y.2
        rw [Nat.sub_self] at this
        cases this
      · rw [if_neg (by omega), if_neg (by omega)]
    | some u =>
      have hu := hb u (by simp)
      have hc := cd_eq (w := w) (w' := w') hu hv (show t0 < 64 by omega) ht
      rw [ents, cn, ih']
      rcases Nat.lt_trichotomy t0 t with q | q | q
      · rw [if_neg (fun y => by have := (hc.mp y).1; omega), hshift (some u) q, Nat.zero_add]
        by_cases z : (r[t - (t0 + 1)]?).join = some v
        · rw [if_pos ⟨by omega, z⟩, if_pos ⟨by omega, z⟩]
        · rw [if_neg (fun y => z y.2), if_neg (fun y => z y.2)]
      · subst q
        rw [if_neg (show ¬ (t0 + 1 ≤ t0 ∧ _) by omega), Nat.add_zero, Nat.sub_self]
        by_cases z : u = v
        · rw [if_pos (hc.mpr ⟨rfl, z⟩), if_pos ⟨Nat.le_refl _, by rw [z]; rfl⟩]
        · rw [if_neg (fun y => z (hc.mp y).2), if_neg (fun y => z (by have := y.2; simpa using this))]
      · rw [if_neg (fun y => by have := (hc.mp y).1; omega), if_neg (by omega), if_neg (by omega)]
theorem cn_lsU {W : Nat → List (Option (Nat × Nat × Nat))} {a b : Nat} (ha : a ≤ 6) (hb : b ≤ 6) {gr : Nat → Int32} (hW : okW W a b gr) {v : Nat × Nat × Nat} (hv : v.1 < 36 ∧ v.2.1 < 128 ∧ v.2.2 ≤ 60) {t : Nat} (h1 : 1 ≤ t) (ht : t ≤ 60) (w' : Nat) : ∀ k, k ≤ 8 → cn (cdN (v.1, t, v.2.1, v.2.2, w')) (lsU W k) = hoW W t v k := by
  have h36 := mul_le36 ha hb
  intro k
  induction k with
  | zero => intro _; rfl
  | succ k ih =>
    intro hk
    have hwk := hW k (by omega)
    rw [lsU, cn_append, ih (by omega), hoW, cn_ents k w' hv (by omega) (W k) 1 (by omega) (fun u hu => by
      obtain ⟨o1, o2, o3, o4, o5⟩ := hwk.2 u hu
      exact ⟨by omega, by omega, by omega⟩)]
    congr 1
    unfold sp
    by_cases z : ((W k)[t - 1]?).join = some v
    · rw [if_pos ⟨h1, z⟩, if_pos z]
    · rw [if_neg (fun y => z y.2), if_neg z]
theorem enc_iff {o : Option (Nat × Nat × Nat)} (ho : ∀ u, o = some u → u.1 < 36 ∧ u.2.1 < 128 ∧ u.2.2 ≤ 120) {v : Nat × Nat × Nat} (hv : v.1 < 36 ∧ v.2.1 < 128 ∧ v.2.2 ≤ 120) : enc o = enc (some v) ↔ o = some v := by
  constructor
  · intro h
    cases o with
    | none => exact absurd h.symm (enc_ne0 hv.1 hv.2.1 hv.2.2)
    | some u =>
      obtain ⟨p1, p2, p3⟩ := ho u rfl
      rw [enc_inj p1 p2 p3 hv.1 hv.2.1 hv.2.2 h]
  · intro h; rw [h]
theorem sp_b {W : Nat → List (Option (Nat × Nat × Nat))} {a b : Nat} (ha : a ≤ 6) (hb : b ≤ 6) {gr : Nat → Int32} (hW : okW W a b gr) {w t : Nat} (hw : w < 8) (h1 : 1 ≤ t) : ∀ u, sp W w t = some u → u.1 < 36 ∧ u.2.1 < 128 ∧ u.2.2 ≤ 60 := fun u hu => by
  have h36 := mul_le36 ha hb
  obtain ⟨o1, o2, o3, o4, o5⟩ := (sp_ok hW hw hu h1).1
  exact ⟨by omega, by omega, by omega⟩
theorem howOftenC {W : Nat → List (Option (Nat × Nat × Nat))} {a b : Nat} (ha : a ≤ 6) (hb : b ≤ 6) {gr : Nat → Int32} (hW : okW W a b gr) {marks lasting : Nat → Int32} (hv : Wv W 8 marks lasting) {v : Nat × Nat × Nat} (hvb : v.1 < 36 ∧ v.2.1 < 128 ∧ v.2.2 ≤ 60) {t : Nat} (h1 : 1 ≤ t) (h60 : t ≤ 60) : f_X8_howOften marks lasting (enc (some v)) (nI t) = some (nI (hoW W t v 8)) := by
  have key : ∀ (d k n : Nat), k + d = 8 → d < n → f_X8_howOften_L5 marks lasting (enc (some v)) (nI t) n (nI (hoW W t v k)) (nI k) = some (nI (hoW W t v 8)) := by
    intro d
    induction d with
    | zero =>
      intro k n hk hn
      obtain ⟨n, rfl⟩ : ∃ m, n = m + 1 := ⟨n - 1, by omega⟩
      have : k = 8 := by omega
      subst this
      rw [f_X8_howOften_L5, if_pos (show (8 : Int32) ≤ nI 8 by decide)]
    | succ d ih =>
      intro k n hk hn
      obtain ⟨n, rfl⟩ : ∃ m, n = m + 1 := ⟨n - 1, by omega⟩
      have hw : k < 8 := by omega
      have ih' := ih (k + 1) n (by omega) (by omega)
      rw [hoW] at ih'
      have hiff := enc_iff (o := sp W k t) (fun u hu => by have := sp_b ha hb hW hw h1 u hu; exact ⟨this.1, this.2.1, by omega⟩) (v := v) ⟨hvb.1, hvb.2.1, by omega⟩
      rw [f_X8_howOften_L5, if_neg (show ¬ (8 : Int32) ≤ nI k from nI_ge (b := 8) hw (by decide)), soundOf_sp hv hw h1 h60, bN]
      unfold f_X8_howOften_J26
      rw [st1]
      by_cases z : sp W k t = some v
      · rw [if_pos z] at ih'
        rw [if_pos (hiff.mpr z), st1, ih']
      · rw [if_neg z, Nat.add_zero] at ih'
        rw [if_neg (fun y => z (hiff.mp y))]
        rw [show nI k + 1 = nI (k + 1) from st1 k] 
        exact ih'
  exact key 8 0 FU rfl (by decide)
def QQ (W W' : Nat → List (Option (Nat × Nat × Nat))) (c t : Nat) (o : Option (Nat × Nat × Nat)) : Prop := ∀ v, o = some v → v.1 = c → hoW W t v 8 = hoW W' t v 8
theorem asOftenC {W W' : Nat → List (Option (Nat × Nat × Nat))} {a b : Nat} (ha : a ≤ 6) (hb : b ≤ 6) {gr gr' : Nat → Int32} (hW : okW W a b gr) (hW' : okW W' a b gr') {mk la mk' la' : Nat → Int32} (hv : Wv W 8 mk la) (hv' : Wv W' 8 mk' la') {o : Option (Nat × Nat × Nat)} (ho : ∀ u, o = some u → u.1 < 36 ∧ u.2.1 < 128 ∧ u.2.2 ≤ 60) {c : Nat} (hc : c < 36) {t : Nat} (h1 : 1 ≤ t) (h60 : t ≤ 60) : (f_X8_asOften mk la mk' la' (enc o) (nI c) (nI t) = some 1 ∧ QQ W W' c t o) ∨ (f_X8_asOften mk la mk' la' (enc o) (nI c) (nI t) = some 0 ∧ ¬ QQ W W' c t o) := by
  unfold f_X8_asOften
  cases o with
  | none =>
    refine Or.inl ⟨?_, fun v h => by cases h⟩
    rw [cellOf_0, bN, if_neg (fun q => nI_ne1 (show c < 2 ^ 31 by omega) q.symm)]
  | some v =>
    have hvb := ho v rfl
    rw [cellOf_enc hvb.1 hvb.2.1 (by omega), bN]
    by_cases q : v.1 = c
    · have e8 := hoW_le W t v 8
      have e8' := hoW_le W' t v 8
      rw [if_pos (by rw [q]), howOftenC ha hb hW hv hvb h1 h60, bN, howOftenC ha hb hW' hv' hvb h1 h60, bN]
      by_cases z : hoW W t v 8 = hoW W' t v 8
      · rw [if_pos (by rw [z])]
        exact Or.inl ⟨rfl, fun u hu _ => by cases hu; exact z⟩
      · rw [if_neg (fun y => z ((nI_eq (by omega) (by omega)).mp y))]
        exact Or.inr ⟨rfl, fun y => z (y v rfl q)⟩
    · rw [if_neg (fun y => q ((nI_eq (by omega) (by omega)).mp y))]
      exact Or.inl ⟨rfl, fun u hu hc' => by cases hu; exact absurd hc' q⟩
theorem same_L11 {W W' : Nat → List (Option (Nat × Nat × Nat))} {a b : Nat} (ha : a ≤ 6) (hb : b ≤ 6) {gr gr' : Nat → Int32} (hW : okW W a b gr) (hW' : okW W' a b gr') {mk la mk' la' : Nat → Int32} (hv : Wv W 8 mk la) (hv' : Wv W' 8 mk' la') {c : Nat} (hc : c < 36) {t : Nat} (h1 : 1 ≤ t) (h60 : t ≤ 60) (rc : Int32 → Option Int32) : ∀ (d w n : Nat), w + d = 8 → d < n → (f_X8_sameAt_L11 rc mk la mk' la' (nI c) (nI t) n (nI w) = rc (nI (t + 1)) ∧ ∀ w', w ≤ w' → w' < 8 → QQ W W' c t (sp W w' t) ∧ QQ W W' c t (sp W' w' t)) ∨ (f_X8_sameAt_L11 rc mk la mk' la' (nI c) (nI t) n (nI w) = some 0 ∧ ∃ w', w' < 8 ∧ ¬ (QQ W W' c t (sp W w' t) ∧ QQ W W' c t (sp W' w' t))) := by
  intro d
  induction d with
  | zero =>
    intro w n hk hn
    obtain ⟨n, rfl⟩ : ∃ m, n = m + 1 := ⟨n - 1, by omega⟩
    have : w = 8 := by omega
    subst this
    refine Or.inl ⟨?_, fun w' h1 h2 => by omega⟩
    rw [f_X8_sameAt_L11, if_pos (show (8 : Int32) ≤ nI 8 by decide)]
    unfold f_X8_sameAt_J62
    rw [st1]
  | succ d ih =>
    intro w n hk hn
    obtain ⟨n, rfl⟩ : ∃ m, n = m + 1 := ⟨n - 1, by omega⟩
    have hw : w < 8 := by omega
    rw [f_X8_sameAt_L11, if_neg (show ¬ (8 : Int32) ≤ nI w from nI_ge (b := 8) hw (by decide)), soundOf_sp hv hw h1 h60, bN, soundOf_sp hv' hw h1 h60, bN, st1]
    rcases asOftenC ha hb hW hW' hv hv' (sp_b ha hb hW hw h1) hc h1 h60 with ⟨r1, q1⟩ | ⟨r1, q1⟩
    · rw [r1, bN, i10]
      rcases asOftenC ha hb hW hW' hv hv' (sp_b ha hb hW' hw h1) hc h1 h60 with ⟨r2, q2⟩ | ⟨r2, q2⟩
      · rw [r2, bN, i10]
        rcases ih (w + 1) n (by omega) (by omega) with ⟨g1, g2⟩ | g
        · refine Or.inl ⟨g1, fun w' hw1 hw2 => ?_⟩
          by_cases z : w' = w
          · subst z; exact ⟨q1, q2⟩
          · exact g2 w' (by omega) hw2
        · exact Or.inr g
      · rw [r2, bN, i00]
        exact Or.inr ⟨rfl, w, hw, fun y => q2 y.2⟩
    · rw [r1, bN, i00]
      exact Or.inr ⟨rfl, w, hw, fun y => q1 y.1⟩
theorem same_L2 {W W' : Nat → List (Option (Nat × Nat × Nat))} {a b : Nat} (ha : a ≤ 6) (hb : b ≤ 6) {gr gr' : Nat → Int32} (hW : okW W a b gr) (hW' : okW W' a b gr') {mk la mk' la' : Nat → Int32} (hv : Wv W 8 mk la) (hv' : Wv W' 8 mk' la') {c : Nat} (hc : c < 36) : ∀ (d t n : Nat), t + d = 61 → 1 ≤ t → d < n → (f_X8_sameAt_L2 mk la mk' la' (nI c) n (nI t) = some 1 ∧ ∀ t', t ≤ t' → t' ≤ 60 → ∀ w', w' < 8 → QQ W W' c t' (sp W w' t') ∧ QQ W W' c t' (sp W' w' t')) ∨ (f_X8_sameAt_L2 mk la mk' la' (nI c) n (nI t) = some 0 ∧ ∃ t' w', 1 ≤ t' ∧ t' ≤ 60 ∧ w' < 8 ∧ ¬ (QQ W W' c t' (sp W w' t') ∧ QQ W W' c t' (sp W' w' t'))) := by
  intro d
  induction d with
  | zero =>
    intro t n hk h1 hn
    obtain ⟨n, rfl⟩ : ∃ m, n = m + 1 := ⟨n - 1, by omega⟩
    have : t = 61 := by omega
    subst this
    exact Or.inl ⟨by rw [f_X8_sameAt_L2, if_pos (show (60 : Int32) < nI 61 by decide)], fun t' h1 h2 => by omega⟩
  | succ d ih =>
    intro t n hk h1 hn
    obtain ⟨n, rfl⟩ : ∃ m, n = m + 1 := ⟨n - 1, by omega⟩
    rw [f_X8_sameAt_L2, if_neg (show ¬ (60 : Int32) < nI t from fun q => absurd ((nI_ltI (a := 60) (by decide) (by omega)).mp q) (by omega))]
    rcases same_L11 ha hb hW hW' hv hv' hc h1 (show t ≤ 60 by omega) (f_X8_sameAt_L2 mk la mk' la' (nI c) n) 8 0 FU rfl (by decide) with ⟨g1, g2⟩ | ⟨g1, w', g2, g3⟩
    · have g1' : f_X8_sameAt_L11 (f_X8_sameAt_L2 mk la mk' la' (nI c) n) mk la mk' la' (nI c) (nI t) FU 0 = _ := g1
      rw [g1']
      rcases ih (t + 1) n (by omega) (by omega) (by omega) with ⟨k1, k2⟩ | k
      · refine Or.inl ⟨k1, fun t' ht1 ht2 w' hw' => ?_⟩
        by_cases z : t' = t
        · subst z; exact g2 w' (Nat.zero_le _) hw'
        · exact k2 t' (by omega) ht2 w' hw'
      · exact Or.inr k
    · have g1' : f_X8_sameAt_L11 (f_X8_sameAt_L2 mk la mk' la' (nI c) n) mk la mk' la' (nI c) (nI t) FU 0 = _ := g1
      rw [g1']
      exact Or.inr ⟨rfl, t, w', h1, by omega, g2, g3⟩
def PP (L L' : List (Nat × Nat × Nat × Nat × Nat)) (c : Nat) : Prop := ∀ e, (e ∈ L ∨ e ∈ L') → e.1 = c → cn (cdN e) L = cn (cdN e) L'
theorem sameAtC {W W' : Nat → List (Option (Nat × Nat × Nat))} {a b : Nat} (ha : a ≤ 6) (hb : b ≤ 6) {gr gr' : Nat → Int32} (hW : okW W a b gr) (hW' : okW W' a b gr') {mk la mk' la' : Nat → Int32} (hv : Wv W 8 mk la) (hv' : Wv W' 8 mk' la') {c : Nat} (hc : c < 36) : (f_X8_sameAt mk la mk' la' (nI c) = some 1 ∧ PP (lsU W 8) (lsU W' 8) c) ∨ (f_X8_sameAt mk la mk' la' (nI c) = some 0 ∧ ¬ PP (lsU W 8) (lsU W' 8) c) := by
  have hcn : ∀ t v w, 1 ≤ t → t ≤ 60 → (v.1 < 36 ∧ v.2.1 < 128 ∧ v.2.2 ≤ 60) → (cn (cdN (v.1, t, v.2.1, v.2.2, w)) (lsU W 8) = cn (cdN (v.1, t, v.2.1, v.2.2, w)) (lsU W' 8) ↔ hoW W t v 8 = hoW W' t v 8) := fun t v w h1 h60 hb' => by
    rw [cn_lsU ha hb hW hb' h1 h60 w 8 (by omega), cn_lsU ha hb hW' hb' h1 h60 w 8 (by omega)]
  rcases same_L2 ha hb hW hW' hv hv' hc 60 1 FU (by decide) (by decide) (by decide) with ⟨g1, g2⟩ | ⟨g1, t, w, h1, h60, hw, g2⟩
  · refine Or.inl ⟨g1, fun e he hec => ?_⟩
    rcases he with he | he
    · obtain ⟨w, t, v, hw, ht, hs, rfl⟩ := (mem_lsU 8).mp he
      have h60 := (sp_ok hW hw hs ht).2
      exact (hcn t v w ht h60 (sp_b ha hb hW hw ht v hs)).mpr ((g2 t ht h60 w hw).1 v hs hec)
    · obtain ⟨w, t, v, hw, ht, hs, rfl⟩ := (mem_lsU 8).mp he
      have h60 := (sp_ok hW' hw hs ht).2
      exact (hcn t v w ht h60 (sp_b ha hb hW' hw ht v hs)).mpr ((g2 t ht h60 w hw).2 v hs hec)
  · refine Or.inr ⟨g1, fun hP => g2 ⟨fun v hs hvc => ?_, fun v hs hvc => ?_⟩⟩
    · exact (hcn t v w h1 h60 (sp_b ha hb hW hw h1 v hs)).mp (hP _ (Or.inl ((mem_lsU 8).mpr ⟨w, t, v, hw, h1, hs, rfl⟩)) hvc)
    · exact (hcn t v w h1 h60 (sp_b ha hb hW' hw h1 v hs)).mp (hP _ (Or.inr ((mem_lsU 8).mpr ⟨w, t, v, hw, h1, hs, rfl⟩)) hvc)
end M70
