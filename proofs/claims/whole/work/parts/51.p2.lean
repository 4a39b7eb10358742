/-! ===== the class's rows ===== -/
/-- no row has more places than this -/

def RowL (σ : CS) (l : List Int32) : Prop := (σ.1 0 = nI l.length) ∧ (l.length ≤ σ.2.2 0) ∧ (σ.2.2 0 ≤ 140000) ∧ (∀ k, k < l.length → σ.2.1 0 k = l.getD k 0)
theorem RowL.cnt {σ : CS} {l : List Int32} (h : RowL σ l) : σ.1 0 = nI l.length := h.1
theorem RowL.cap {σ : CS} {l : List Int32} (h : RowL σ l) : l.length ≤ σ.2.2 0 := h.2.1
theorem RowL.big {σ : CS} {l : List Int32} (h : RowL σ l) : σ.2.2 0 ≤ 140000 := h.2.2.1
theorem RowL.val {σ : CS} {l : List Int32} (h : RowL σ l) : ∀ k, k < l.length → σ.2.1 0 k = l.getD k 0 := h.2.2.2
def getR (l : List Int32) (x : Int32) : Int32 := if x < 0 then 0 else l.getD x.toNatClampNeg 0
theorem getR_nI (l : List Int32) {k : Nat} (h : k < 2 ^ 31) : getR l (nI k) = l.getD k 0 := by
  unfold getR
  rw [if_neg (nI_pos h), nI_clamp h]
theorem nI_ofNeg {x : Int32} (h : ¬ x < 0) : ∃ j : Nat, j < 2 ^ 31 ∧ x = nI j := by
  have h0 : 0 ≤ x.toInt := by
    have := Int32.le_iff_toInt_le.mp (Int32.not_lt.mp h)
    simpa using this
  have hl := x.toInt_lt
  refine ⟨x.toInt.toNat, by omega, Int32.toInt_inj.mp ?_⟩
  rw [nI_toInt (by omega)]
  omega
theorem C_Row_get_eq {σ : CS} {l : List Int32} (h : RowL σ l) (x : Int32) : C_Row_get x σ = some (getR l x) := by
  unfold C_Row_get C_Row_get_21 C_Row_get_22 getR
  have hb := h.big; have hc := h.cap
  by_cases h1 : x < 0
  · rw [if_pos h1, if_pos h1]
  · obtain ⟨j, hj, rfl⟩ := nI_ofNeg h1
    rw [if_neg h1, if_neg h1, h.cnt, nI_clamp hj]
    by_cases h2 : j < l.length
    · rw [if_neg (by rw [nI_leI (by omega) hj]; omega), gd_t (inB_nI (by omega) (by omega)), h.val j h2]
    · rw [if_pos (by rw [nI_leI (by omega) hj]; omega), (by simp [List.getD_eq_getElem?_getD, List.getElem?_eq_none (show l.length ≤ j by omega)] : l.getD j 0 = 0)]
theorem C_Row_cut_eq {σ : CS} {l : List Int32} (h : RowL σ l) (k : Nat) (hk : k < 2 ^ 31) : ∃ σ', C_Row_cut (nI k) σ = some (0, σ') ∧ RowL σ' (l.take k) ∧ σ'.2.2 = σ.2.2 := by
  have hb := h.big; have hc := h.cap
  unfold C_Row_cut C_Row_cut_17
  rw [if_neg (nI_pos hk), h.cnt]
  by_cases h2 : k < l.length
  · rw [if_neg (by rw [nI_leI (by omega) hk]; omega)]
    refine ⟨_, rfl, ⟨?_, ?_, hb, ?_⟩, rfl⟩
    · simp [cF, upd, List.length_take, Nat.min_eq_left (Nat.le_of_lt h2)]
    · simp [cF]; omega
    · intro j hj
      simp only [List.length_take] at hj
      simp only [cF]
      rw [h.val j (by omega)]
      simp [List.getD_eq_getElem?_getD, List.getElem?_take, show j < k by omega]
  · rw [if_pos (by rw [nI_leI (by omega) hk]; omega)]
    exact ⟨σ, rfl, by rw [List.take_of_length_le (by omega)]; exact h, rfl⟩
theorem C_Row_set_eq {σ : CS} {l : List Int32} (h : RowL σ l) (k : Nat) (hk : k < 2 ^ 31) (v : Int32) : ∃ σ', C_Row_set (nI k) v σ = some (0, σ') ∧ RowL σ' (l.set k v) ∧ σ'.2.2 = σ.2.2 := by
  have hb := h.big; have hc := h.cap
  unfold C_Row_set C_Row_set_19
  rw [if_neg (nI_pos hk), h.cnt]
  by_cases h2 : k < l.length
  · rw [if_neg (by rw [nI_leI (by omega) hk]; omega), gd_t (inB_nI (by omega) (by omega)), nI_clamp hk]
    refine ⟨_, rfl, ⟨?_, ?_, hb, ?_⟩, rfl⟩
    · simp [cA]; exact h.cnt
    · simp [cA]; exact hc
    · intro j hj
      simp only [List.length_set] at hj
      simp only [cA, if_true]
      by_cases e : j = k
      · subst e; simp [upd, List.getD_eq_getElem?_getD, h2]
      · simp [upd, e, List.getD_eq_getElem?_getD, List.getElem?_set, Ne.symm e]; rw [h.val j hj]; simp [List.getD_eq_getElem?_getD]
  · rw [if_pos (by rw [nI_leI (by omega) hk]; omega)]
    exact ⟨σ, rfl, by rw [List.set_eq_of_length_le (by omega)]; exact h, rfl⟩
theorem jmin_nI {a b : Nat} (ha : a < 2 ^ 31) (hb : b < 2 ^ 31) : jmin (nI a) (nI b) = nI (min a b) := by
  unfold jmin
  by_cases h : b < a
  · rw [if_pos ((nI_ltI hb ha).mpr h), Nat.min_eq_right (by omega)]
  · rw [if_neg (fun z => h ((nI_ltI hb ha).mp z)), Nat.min_eq_left (by omega)]
theorem jmax_nI {a b : Nat} (ha : a < 2 ^ 31) (hb : b < 2 ^ 31) : jmax (nI a) (nI b) = nI (max a b) := by
  unfold jmax
  by_cases h : a < b
  · rw [if_pos ((nI_ltI ha hb).mpr h), Nat.max_eq_right (by omega)]
  · rw [if_neg (fun z => h ((nI_ltI ha hb).mp z)), Nat.max_eq_left (by omega)]
theorem C_copyOf_eq {m g : Nat} {f : Nat → Int32} (hg : g < m) (hm : m ≤ 2 ^ 27) : C_copyOf (nI m) g f = some ((0, va_cpy f (fun _ => 0) 0 0 g), (1, m)) := by
  unfold C_copyOf
  rw [gd_t (by simp only [Bool.not_eq_true', decide_eq_false_iff_not]; intro e; have := (nI_eq (by omega) (by omega)).mp e; omega), gd_t (by simp [nI_pos (show m < 2 ^ 31 by omega)]), gd_t (by rw [nI_clamp (by omega)]; simp; omega), jmin_nI (by omega) (by omega), Nat.min_eq_left (by omega), gd_t (by simp [nI_pos (show g < 2 ^ 31 by omega)]), nI_clamp (by omega), nI_clamp (by omega), gd_t (by simp), gd_t (by simp; omega)]
/-- what an addition to rows may cost: cap before and behind it -/
def Cost (c c' dc ds : Nat) : Prop := ds + 2 * c ≤ 2 * c' ∧ 64 * dc + c ≤ c'
theorem C_Row_add_32_eq {σ : CS} {l : List Int32} (h : RowL σ l) (hl : l.length < σ.2.2 0) (v : Int32) : ∃ σ', C_Row_add_32 v σ = some ((0, σ'), (0, 0)) ∧ RowL σ' (l ++ [v]) ∧ σ'.2.2 = σ.2.2 := by
  have hb := h.big
  unfold C_Row_add_32
  rw [h.cnt, gd_t (inB_nI hl (by omega)), nI_clamp (by omega)]
  refine ⟨_, rfl, ⟨?_, ?_, hb, ?_⟩, rfl⟩
  · simp [cF, cA, upd, h.cnt, nI_1]
  · simp [cF, cA]; omega
  · intro j hj
    simp only [List.length_append, List.length_singleton] at hj
    simp only [cF, cA, if_true]
    by_cases e : j = l.length
    · subst e; simp [upd, List.getD_eq_getElem?_getD]
    · rw [pk_un e, h.val j (by omega)]
      simp [List.getD_eq_getElem?_getD, List.getElem?_append_left (show j < l.length by omega)]
theorem C_Row_add_eq {σ : CS} {l : List Int32} (h : RowL σ l) (hl : 2 * l.length + 64 ≤ 140000) (v : Int32) : ∃ σ' dc ds, C_Row_add v σ = some ((0, σ'), (dc, ds)) ∧ RowL σ' (l ++ [v]) ∧ Cost (σ.2.2 0) (σ'.2.2 0) dc ds ∧ σ'.2.2 0 ≤ max (σ.2.2 0) (2 * l.length + 64) := by
  have hb := h.big; have hc := h.cap
  unfold C_Row_add
  rw [h.cnt]
  by_cases h1 : l.length < σ.2.2 0
  · rw [if_pos (by rw [nI_ltI (by omega) (by omega)]; exact h1)]
    obtain ⟨σ', e, r, ec⟩ := C_Row_add_32_eq h h1 v
    exact ⟨σ', 0, 0, e, r, by rw [ec]; unfold Cost; omega, by rw [ec]; omega⟩
  · rw [if_neg (by rw [nI_ltI (by omega) (by omega)]; exact h1), show (2 : Int32) * nI l.length + 64 = nI (2 * l.length + 64) from by rw [show (2 : Int32) = nI 2 from rfl, pk_mul, show (64 : Int32) = nI 64 from rfl, nI_add], C_copyOf_eq (by omega) (by omega), nI_clamp (by omega)]
    have h2 : RowL (cB σ 0 (2 * l.length + 64) (va_cpy (σ.2.1 0) (fun _ => 0) 0 0 (σ.2.2 0))) l := by
      refine ⟨h.cnt, by simp [cB]; omega, by simp [cB]; omega, fun k hk => ?_⟩
      simp only [cB, if_true, va_cpy]
      rw [if_pos (by omega), ← h.val k hk]
      simp
    obtain ⟨σ', e, r, ec⟩ := C_Row_add_32_eq h2 (by simp [cB]; omega) v
    refine ⟨σ', 1, 2 * l.length + 64, ?_, r, ?_, ?_⟩
    · simp [ct, bnd, e]
    · rw [ec]; unfold Cost; simp [cB]; omega
    · rw [ec]; simp [cB]; omega
/-! ===== the class's tokens ===== -/
def TokL (σ : CS) (L : List (Int32 × Int32 × Int32)) (c : Nat) : Prop := (σ.1 1 = nI L.length) ∧ (σ.1 0 = nI (L.countP (fun t => decide (t.1 = 0)))) ∧ (L.length ≤ c) ∧ (c ≤ 140000) ∧ (σ.2.2 0 = c) ∧ (σ.2.2 1 = c) ∧ (σ.2.2 2 = c) ∧ (∀ k, k < L.length → σ.2.1 0 k = (L.getD k (0, 0, 0)).1) ∧ (∀ k, k < L.length → σ.2.1 1 k = (L.getD k (0, 0, 0)).2.1) ∧ (∀ k, k < L.length → σ.2.1 2 k = (L.getD k (0, 0, 0)).2.2)
theorem TokL.cnt {σ : CS} {L : List (Int32 × Int32 × Int32)} {c : Nat} (h : TokL σ L c) : σ.1 1 = nI L.length := h.1
theorem TokL.lines {σ : CS} {L : List (Int32 × Int32 × Int32)} {c : Nat} (h : TokL σ L c) : σ.1 0 = nI (L.countP (fun t => decide (t.1 = 0))) := h.2.1
theorem TokL.cap {σ : CS} {L : List (Int32 × Int32 × Int32)} {c : Nat} (h : TokL σ L c) : L.length ≤ c := h.2.2.1
theorem TokL.big {σ : CS} {L : List (Int32 × Int32 × Int32)} {c : Nat} (h : TokL σ L c) : c ≤ 140000 := h.2.2.2.1
theorem TokL.c0 {σ : CS} {L : List (Int32 × Int32 × Int32)} {c : Nat} (h : TokL σ L c) : σ.2.2 0 = c := h.2.2.2.2.1
theorem TokL.c1 {σ : CS} {L : List (Int32 × Int32 × Int32)} {c : Nat} (h : TokL σ L c) : σ.2.2 1 = c := h.2.2.2.2.2.1
theorem TokL.c2 {σ : CS} {L : List (Int32 × Int32 × Int32)} {c : Nat} (h : TokL σ L c) : σ.2.2 2 = c := h.2.2.2.2.2.2.1
theorem TokL.v0 {σ : CS} {L : List (Int32 × Int32 × Int32)} {c : Nat} (h : TokL σ L c) : ∀ k, k < L.length → σ.2.1 0 k = (L.getD k (0, 0, 0)).1 := h.2.2.2.2.2.2.2.1
theorem TokL.v1 {σ : CS} {L : List (Int32 × Int32 × Int32)} {c : Nat} (h : TokL σ L c) : ∀ k, k < L.length → σ.2.1 1 k = (L.getD k (0, 0, 0)).2.1 := h.2.2.2.2.2.2.2.2.1
theorem TokL.v2 {σ : CS} {L : List (Int32 × Int32 × Int32)} {c : Nat} (h : TokL σ L c) : ∀ k, k < L.length → σ.2.1 2 k = (L.getD k (0, 0, 0)).2.2 := h.2.2.2.2.2.2.2.2.2
theorem getD_snoc {α : Type} (l : List α) (a d : α) (k : Nat) : (l ++ [a]).getD k d = if k = l.length then a else l.getD k d := by
  by_cases h : k = l.length
  · subst h; simp [List.getD_eq_getElem?_getD]
  · rw [if_neg h]
    by_cases h2 : k < l.length
    · simp [List.getD_eq_getElem?_getD, List.getElem?_append_left h2]
    · simp [List.getD_eq_getElem?_getD, List.getElem?_eq_none (show l.length ≤ k by omega), List.getElem?_eq_none (show (l ++ [a]).length ≤ k by simp; omega)]
theorem C_Tok_add_86_eq {σ : CS} {L : List (Int32 × Int32 × Int32)} {c : Nat} (h : TokL σ L c) (hl : L.length < c) (k v n : Int32) : ∃ σ', C_Tok_add_86 k v n σ = some ((0, σ'), (0, 0)) ∧ TokL σ' (L ++ [(k, v, n)]) c ∧ σ'.1 2 = σ.1 2 := by
  have hb := h.big
  unfold C_Tok_add_86 C_Tok_add_140
  have e1 : ∀ (a b : Nat) (x : Int32), (cA σ a b x).1 1 = σ.1 1 := fun _ _ _ => rfl
  rw [h.cnt, h.c0, gd_t (inB_nI hl (by omega)), nI_clamp (by omega)]
  simp only [bnd]
  rw [show (cA σ 0 L.length k).1 1 = nI L.length from h.cnt, show (cA σ 0 L.length k).2.2 1 = c from h.c1, gd_t (inB_nI hl (by omega)), nI_clamp (by omega)]
  rw [show (cA (cA σ 0 L.length k) 1 L.length v).1 1 = nI L.length from h.cnt, show (cA (cA σ 0 L.length k) 1 L.length v).2.2 2 = c from h.c2, gd_t (inB_nI hl (by omega)), nI_clamp (by omega)]
  have hv : ∀ (τ : CS), τ.2.1 = (cA (cA (cA σ 0 L.length k) 1 L.length v) 2 L.length n).2.1 → τ.2.2 = σ.2.2 → τ.1 1 = nI (L.length + 1) → τ.1 0 = nI ((L ++ [(k, v, n)]).countP (fun t => decide (t.1 = 0))) → TokL τ (L ++ [(k, v, n)]) c := by
    intro τ t1 t2 t3 t4
    refine ⟨by rw [t3]; simp, t4, by simp; omega, hb, by rw [t2]; exact h.c0, by rw [t2]; exact h.c1, by rw [t2]; exact h.c2, ?_, ?_, ?_⟩ <;> intro j hj <;> simp only [List.length_append, List.length_singleton] at hj <;> rw [t1, getD_snoc] <;> simp only [cA]
    · by_cases e : j = L.length
      · subst e; simp [upd]
      · simp [upd, e]; exact h.v0 j (by omega)
    · by_cases e : j = L.length
      · subst e; simp [upd]
      · simp [upd, e]; exact h.v1 j (by omega)
    · by_cases e : j = L.length
      · subst e; simp [upd]
      · simp [upd, e]; exact h.v2 j (by omega)
  by_cases hk : k = 0
  · subst hk
    simp only [if_true]
    refine ⟨_, rfl, hv _ rfl rfl (by simp [cF, upd, cA, h.cnt, nI_1]) ?_, rfl⟩
    simp [cF, upd, cA, h.lines, nI_1, List.countP_append]
  · simp only [hk, if_false]
    refine ⟨_, rfl, hv _ rfl rfl (by simp [cF, upd, cA, h.cnt, nI_1]) ?_, rfl⟩
    simp [cF, upd, cA, h.lines, List.countP_append, hk]
theorem C_Tok_add_eq {σ : CS} {L : List (Int32 × Int32 × Int32)} {c : Nat} (h : TokL σ L c) (hl : 2 * L.length + 64 ≤ 140000) (k v n : Int32) : ∃ σ' c' dc ds, C_Tok_add k v n σ = some ((0, σ'), (dc, ds)) ∧ TokL σ' (L ++ [(k, v, n)]) c' ∧ σ'.1 2 = σ.1 2 ∧ ds + 6 * c ≤ 6 * c' ∧ 64 * dc + 3 * c ≤ 3 * c' ∧ c' ≤ max c (2 * L.length + 64) := by
  have hb := h.big; have hc := h.cap
  unfold C_Tok_add
  rw [h.cnt, h.c0, h.c1, h.c2]
  by_cases h1 : L.length < c
  · rw [if_neg (by rw [nI_leI (by omega) (by omega)]; omega), if_neg (by rw [nI_leI (by omega) (by omega)]; omega), if_pos (by rw [nI_ltI (by omega) (by omega)]; exact h1)]
    obtain ⟨σ', e, r, e2⟩ := C_Tok_add_86_eq h h1 k v n
    exact ⟨σ', c, 0, 0, e, r, e2, by omega, by omega, by omega⟩
  · rw [if_pos (by rw [nI_leI (by omega) (by omega)]; omega)]
    unfold C_Tok_add_36
    have em : (2 : Int32) * nI L.length + 64 = nI (2 * L.length + 64) := by rw [show (2 : Int32) = nI 2 from rfl, pk_mul, show (64 : Int32) = nI 64 from rfl, nI_add]
    simp only [h.cnt, em, bnd]
    rw [h.c0, C_copyOf_eq (by omega) (by omega), nI_clamp (by omega)]
    simp only [ct, Option.bind_some]
    generalize hs1 : cB σ 0 (2 * L.length + 64) (va_cpy (σ.2.1 0) (fun _ => 0) 0 0 c) = s1
    have q1 : s1.2.2 1 = c := by rw [← hs1]; exact h.c1
    rw [q1, C_copyOf_eq (by omega) (by omega)]
    simp only [Option.bind_some]
    generalize hs2 : cB s1 1 (2 * L.length + 64) (va_cpy (s1.2.1 1) (fun _ => 0) 0 0 c) = s2
    have q2 : s2.2.2 2 = c := by rw [← hs2, ← hs1]; exact h.c2
    rw [q2, C_copyOf_eq (by omega) (by omega)]
    simp only [Option.bind_some]
    generalize hs3 : cB s2 2 (2 * L.length + 64) (va_cpy (s2.2.1 2) (fun _ => 0) 0 0 c) = s3
    have hr : TokL s3 L (2 * L.length + 64) := by
      subst hs3 hs2 hs1
      refine ⟨h.cnt, h.lines, by omega, hl, rfl, rfl, rfl, ?_, ?_, ?_⟩ <;> intro j hj
      · have := h.v0 j hj; simp [cB, va_cpy, show j < c by omega]; simpa using this
      · have := h.v1 j hj; simp [cB, va_cpy, show j < c by omega]; simpa using this
      · have := h.v2 j hj; simp [cB, va_cpy, show j < c by omega]; simpa using this
    obtain ⟨σ', e, r, e2⟩ := C_Tok_add_86_eq hr (by omega) k v n
    refine ⟨σ', 2 * L.length + 64, 1 + (1 + (1 + 0)), (2 * L.length + 64) + ((2 * L.length + 64) + ((2 * L.length + 64) + 0)), ?_, r, ?_, by omega, by omega, by omega⟩
    · simp [e]
    · rw [e2]; subst hs3 hs2 hs1; rfl
