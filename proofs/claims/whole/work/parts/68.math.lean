section M68
/-! who: what is heard -/
def hdI (L : List (Nat × Nat × Nat × Nat × Nat)) (c : Nat) (x : Int32) : Bool := L.any (fun e => decide (e.1 = c) && decide (nI e.2.1 = x))
theorem b64_1 : ∀ k, k < 61 → ∀ t, t < 61 → ((1 : Int64) <<< (Int32.toInt64 (nI k) &&& 63)).toBitVec.getLsbD t = decide (k = t) := by decide +kernel
theorem b64_s : ∀ t, t < 61 → BitVec.smod (Int32.toInt64 (nI t) &&& 63).toBitVec 64 = BitVec.ofNat 64 t := by decide +kernel
theorem b64_n : ∀ t, t < 61 → (BitVec.ofNat 64 t).toNat = t := by decide +kernel
theorem bit64 (x : Int64) {t : Nat} (ht : t < 61) : (x >>> (Int32.toInt64 (nI t) &&& 63)) &&& 1 = if x.toBitVec.getLsbD t then 1 else 0 := by
  apply Int64.toBitVec_inj.mp
  have e1 : (if x.toBitVec.getLsbD t = true then (1 : Int64) else 0).toBitVec = if x.toBitVec.getLsbD t = true then 1#64 else 0#64 := by
    split <;> rfl
  rw [e1, Int64.toBitVec_and, Int64.toBitVec_shiftRight, b64_s t ht, BitVec.sshiftRight_eq', b64_n t ht]
  apply BitVec.eq_of_getLsbD_eq
  intro i hi
  have e2 : (1 : Int64).toBitVec = 1#64 := rfl
  rw [BitVec.getLsbD_and, BitVec.getLsbD_sshiftRight, e2]
  by_cases h0 : i = 0
  · subst h0
    have h3 : t + 0 < 64 := by omega
    by_cases hb : x.toBitVec.getLsbD t = true
    · simp [hb, h3]
      omega
    · simp [hb, h3]
      omega
  · by_cases hb : x.toBitVec.getLsbD t = true
    · simp [hb, h0]
    · simp [hb, h0]
def gL (tH : Nat → Int64) (e : Nat × Nat × Nat × Nat × Nat) : Nat → Int64 := vp_updL tH e.1 (tH e.1 ||| (1 <<< (Int32.toInt64 (nI e.2.1) &&& 63)))
theorem gL_at {c t : Nat} (ht : t < 61) : ∀ (L : List (Nat × Nat × Nat × Nat × Nat)) (tH : Nat → Int64), (∀ e ∈ L, e.2.1 ≤ 60) → (L.foldl gL tH c).toBitVec.getLsbD t = ((tH c).toBitVec.getLsbD t || hdI L c (nI t)) := by
  intro L
  induction L with
  | nil => intro tH _; simp [hdI]
  | cons e r ih =>
    intro tH hb
    have h60 := hb e (by simp)
    rw [List.foldl_cons, ih _ (fun x hx => hb x (by simp [hx]))]
    have e1 : hdI (e :: r) c (nI t) = ((decide (e.1 = c) && decide (nI e.2.1 = nI t)) || hdI r c (nI t)) := by
      unfold hdI
      rw [List.any_cons]
    have e2 : decide (nI e.2.1 = nI t) = decide (e.2.1 = t) := by
      rw [decide_eq_decide]
      exact nI_eq (by omega) (by omega)
    rw [e1, e2, ← Bool.or_assoc]
    congr 1
    unfold gL
    by_cases q : e.1 = c
    · rw [q, show vp_updL tH c (tH c ||| (1 <<< (Int32.toInt64 (nI e.2.1) &&& 63))) c = tH c ||| (1 <<< (Int32.toInt64 (nI e.2.1) &&& 63)) from pk_uLs, Int64.toBitVec_or, BitVec.getLsbD_or, b64_1 e.2.1 (by omega) t ht]
      simp
    · rw [show vp_updL tH e.1 (tH e.1 ||| (1 <<< (Int32.toInt64 (nI e.2.1) &&& 63))) c = tH c from pk_uLn (fun z => q z.symm)]
      simp [q]
theorem fillL_L {N : Nat} (hN : N < 4000) (x : Int64) : ∀ (d k fu : Nat) (v : Nat → Int64), k + d = N → d < fu → ∃ v', f_J7_fill_d0a16_L6 N x (nI N) fu (nI k) v = some v' ∧ ∀ i, v' i = if k ≤ i ∧ i < N then x else v i := by
  intro d
  induction d with
  | zero =>
    intro k fu v hk hn
    obtain ⟨fu, rfl⟩ : ∃ m, fu = m + 1 := ⟨fu - 1, by omega⟩
    have : k = N := by omega
    subst this
    refine ⟨v, by rw [f_J7_fill_d0a16_L6, if_pos (nI_le (Nat.le_refl _) (by omega))], fun i => ?_⟩
    rw [if_neg (by omega)]
  | succ d ih =>
    intro k fu v hk hn
    obtain ⟨fu, rfl⟩ : ∃ m, fu = m + 1 := ⟨fu - 1, by omega⟩
    obtain ⟨v', h1, h2⟩ := ih (k + 1) fu (vp_updL v k x) (by omega) (by omega)
    refine ⟨v', ?_, fun i => ?_⟩
    · rw [f_J7_fill_d0a16_L6, if_neg (nI_ge (show k < N by omega) (by omega)), gd_t (ib_nI (show k < N by omega) (by omega)), nI_clamp (by omega), st1]
      exact h1
    · rw [h2]
      by_cases q : i = k
      · subst q
        rw [if_neg (by omega), if_pos (by omega)]
        exact pk_uLs
      · rw [show vp_updL v k x i = v i from pk_uLn q]
        by_cases q2 : k ≤ i ∧ i < N
        · rw [if_pos (by omega), if_pos q2]
        · rw [if_neg (by omega), if_neg q2]
def HrT (L : List (Nat × Nat × Nat × Nat × Nat)) (tH : Nat → Int64) : Prop := ∀ c, c < 36 → ∀ t, t < 61 → (tH c).toBitVec.getLsbD t = hdI L c (nI t)
theorem listenC {W : Nat → List (Option (Nat × Nat × Nat))} {a b : Nat} (ha : a ≤ 6) (hb : b ≤ 6) {gr : Nat → Int32} (hW : okW W a b gr) {marks lasting : Nat → Int32} (hv : Wv W 8 marks lasting) (tH : Nat → Int64) : ∃ tH', f_X3_listen tH marks lasting = some tH' ∧ HrT (lsU W 8) tH' := by
  obtain ⟨d0, k1, k2⟩ := fillL_L (show 36 < 4000 by decide) 0 36 0 FU tH (by decide) (by decide)
  have key : ∀ d1, f_X3_listen_L10 marks lasting FU 0 d1 = some ((lsU W 8).foldl gL d1) := fun d1 => by
    refine g_out W gL (fun n s x => f_X3_listen_L10 marks lasting n x s) (fun s => some s) (fun n s => ?_) (fun n s w hw => ?_) 8 0 FU d1 rfl (by decide)
    · rw [f_X3_listen_L10, if_pos (show (8 : Int32) ≤ nI 8 by decide)]
    · have hl := lastTick_nI hv hw
      have h60 := (hv w hw).2.1
      rw [f_X3_listen_L10, if_neg (show ¬ (8 : Int32) ≤ nI w from nI_ge (b := 8) hw (by decide))]
      refine (g_in w (W w) gL (fun n' s' x => f_X3_listen_L18 (f_X3_listen_L10 marks lasting n) marks lasting (nI w) n' x s') (fun s' => f_X3_listen_L10 marks lasting n (nI (w + 1)) s') (fun n' s' => ?_) (fun n' s' i e he => ?_) (W w).length 0 FU s (Nat.zero_add _) (by have : FU = 5000 := rfl; omega))
      · rw [f_X3_listen_L18, hl, bN, if_pos (nI_lt (by omega) (by omega))]
        unfold f_X3_listen_J69
        rw [st1]
      · have hi := lt_of_get he
        rw [f_X3_listen_L18, hl, bN, if_neg (show ¬ nI (W w).length < nI (i + 1) from fun q => absurd ((nI_ltI (by omega) (by omega)).mp q) (by omega)), soundOf_i hv hw he, bN]
        unfold f_X3_listen_J63
        rw [st1]
        cases e with
        | none =>
          rw [cellOf_0, bN, if_pos (show (-1 : Int32) < 0 by decide)]
          rfl
        | some v =>
          obtain ⟨o1, o2, o3⟩ := get_ok ha hb hW hw he
          rw [cellOf_enc o1 o2 o3, bN, if_neg (nI_pos (by omega)), if_neg (show ¬ (36 : Int32) ≤ nI v.1 from nI_ge (b := 36) o1 (by decide)), gd_t (ib_nI o1 (by decide)), gd_t (ib_nI o1 (by decide)), nI_clamp (by omega)]
          rfl
  refine ⟨(lsU W 8).foldl gL d0, ?_, fun c hc t ht => ?_⟩
  · unfold f_X3_listen
    have k1' : f_J7_fill_d0a16 36 tH 0 = some d0 := k1
    rw [k1', bN, key]
  · rw [gL_at ht _ _ (fun e he => (lsU_b ha hb hW e he).2.1), k2, if_pos (by omega)]
    have : (0 : Int64).toBitVec.getLsbD t = false := by
      have : (0 : Int64).toBitVec = 0#64 := rfl
      rw [this]
      simp
    rw [this, Bool.false_or]
theorem hdI_out {L : List (Nat × Nat × Nat × Nat × Nat)} (hb : ∀ e ∈ L, 1 ≤ e.2.1 ∧ e.2.1 ≤ 60) (c : Nat) {x : Int32} (h : x < 1 ∨ ¬ x ≤ 60) : hdI L c x = false := by
  unfold hdI
  rw [List.any_eq_false]
  intro e he hx
  obtain ⟨h1, h2⟩ := hb e he
  simp only [Bool.and_eq_true, decide_eq_true_eq] at hx
  rw [← hx.2] at h
  rcases h with h | h
  · exact absurd ((nI_ltI (by omega) (by decide)).mp (show nI e.2.1 < nI 1 from h)) (by omega)
  · exact h (nI_le (b := 60) h2 (by decide))
theorem isHeardC {L : List (Nat × Nat × Nat × Nat × Nat)} (hb : ∀ e ∈ L, 1 ≤ e.2.1 ∧ e.2.1 ≤ 60) {tH : Nat → Int64} (hH : HrT L tH) {c : Nat} (hc : c < 36) (x : Int32) : f_X3_isHeard tH (nI c) x = some (if hdI L c x then 1 else 0) := by
  unfold f_X3_isHeard
  rw [if_neg (nI_pos (by omega)), if_neg (show ¬ (36 : Int32) ≤ nI c from nI_ge (b := 36) hc (by decide))]
  by_cases h1 : x < 1
  · rw [if_pos h1, hdI_out hb c (Or.inl h1)]
    rfl
  · rw [if_neg h1]
    by_cases h2 : x ≤ 60
    · obtain ⟨t, ht, rfl⟩ := rng (x := x) (n := 60) (by decide) (Int32.le_trans (by decide) (Int32.not_lt.mp h1)) h2
      rw [if_pos h2, gd_t (ib_nI hc (by decide)), nI_clamp (by omega), bit64 _ (show t < 61 by omega), hH c hc t (by omega)]
      cases hdI L c (nI t) with
      | false => rfl
      | true => rfl
    · rw [if_neg h2, hdI_out hb c (Or.inr h2)]
      rfl
theorem isHeard_none (tH : Nat → Int64) (x : Int32) : f_X3_isHeard tH (-1) x = some 0 := rfl
theorem isHeardM {L : List (Nat × Nat × Nat × Nat × Nat)} {m : Int32} {ca ti lo tw wa : Nat → Int32} (hL : LayS L (m, ca, ti, lo, tw, wa)) (h480 : L.length ≤ 480) (hb : ∀ e ∈ L, e.1 < 36) {c : Nat} (hc : c < 36) (x : Int32) : f_X10_isHeard m ca ti (nI c) x = some (if hdI L c x then 1 else 0) := by
  obtain ⟨hm, hL⟩ := hL
  have hm : m = nI L.length := hm
  subst hm
  have key : ∀ (d k n : Nat) (s : Bool), k + d = L.length → d < n → f_X10_isHeard_L5 (nI L.length) ca ti (nI c) x n (if s then 1 else 0) (nI k) = some (if (s || hdI (L.drop k) c x) then 1 else 0) := by
    intro d
    induction d with
    | zero =>
      intro k n s hk hn
      obtain ⟨n, rfl⟩ : ∃ m, n = m + 1 := ⟨n - 1, by omega⟩
      have : k = L.length := by omega
      subst this
      rw [f_X10_isHeard_L5, if_pos (nI_le (Nat.le_refl _) (by omega)), List.drop_length]
      cases s with
      | false => rfl
      | true => rfl
    | succ d ih =>
      intro k n s hk hn
      obtain ⟨n, rfl⟩ : ∃ m, n = m + 1 := ⟨n - 1, by omega⟩
      have hkl : k < L.length := by omega
      have he : L[k]? = some L[k] := List.getElem?_eq_getElem hkl
      obtain ⟨e1, e2, -⟩ := hL k _ he
      have e1 : ca k = nI (L[k]).1 := e1
      have e2 : ti k = nI (L[k]).2.1 := e2
      have hbk := hb _ (mem_of_get he)
      have hx : hdI (L.drop k) c x = ((decide ((L[k]).1 = c) && decide (nI (L[k]).2.1 = x)) || hdI (L.drop (k + 1)) c x) := by
        rw [List.drop_eq_getElem_cons hkl]
        unfold hdI
        rw [List.any_cons]
      rw [hx, f_X10_isHeard_L5, if_neg (nI_ge hkl (by omega))]
      unfold f_X10_isHeard_J40 f_X10_isHeard_J44 f_X10_isHeard_J45
      simp only [gd_t (ib_nI (show k < 480 by omega) (show 480 < 2 ^ 31 by decide)), nI_clamp (show k < 2 ^ 31 by omega), e1, e2, st1]
      have t1 := ih (k + 1) n true (by omega) (by omega)
      have t0 := ih (k + 1) n false (by omega) (by omega)
      have t1' : f_X10_isHeard_L5 (nI L.length) ca ti (nI c) x n 1 (nI (k + 1)) = some 1 := t1
      have t0' : f_X10_isHeard_L5 (nI L.length) ca ti (nI c) x n 0 (nI (k + 1)) = some (if hdI (L.drop (k + 1)) c x then 1 else 0) := t0
      rw [t1', t0']
      cases s with
      | true =>
        rw [if_neg (show ¬ (if true = true then (1 : Int32) else 0) = 0 by decide), Bool.true_or]
        rfl
      | false =>
        rw [if_pos (show (if false = true then (1 : Int32) else 0) = 0 by decide), Bool.false_or]
        by_cases q1 : (L[k]).1 = c
        · rw [if_pos (by rw [q1]), decide_eq_true q1, Bool.true_and]
          by_cases q2 : nI (L[k]).2.1 = x
          · rw [if_pos q2, decide_eq_true q2, Bool.true_or]
            rfl
          · rw [if_neg q2, decide_eq_false q2, Bool.false_or]
        · rw [if_neg (fun z => q1 ((nI_eq (by omega) (by omega)).mp z)), decide_eq_false q1, Bool.false_and, Bool.false_or]
  have := key L.length 0 FU false (Nat.zero_add _) (by have : FU = 5000 := rfl; omega)
  rw [Bool.false_or, List.drop_zero] at this
  exact this
end M68
