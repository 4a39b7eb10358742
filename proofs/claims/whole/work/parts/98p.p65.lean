/-! ===== the class: runs that cost; tokens ===== -/
def CostP (p p' : Nat × Nat) (dc ds : Nat) : Prop := ds + p.1 ≤ p'.1 ∧ 64 * dc + p.2 ≤ p'.2
def RC {α σ : Type} (c0 : Nat × Nat) (o : Option ((α × σ) × (Nat × Nat))) (Q : α → σ → Nat × Nat → Prop) : Prop := ∃ v u dc ds c', o = some ((v, u), (dc, ds)) ∧ CostP c0 c' dc ds ∧ Q v u c'
section
variable {α σ β τ : Type} {c0 : Nat × Nat}
theorem RC_ret {v : α} {u : σ} {Q : α → σ → Nat × Nat → Prop} (h : Q v u c0) : RC c0 (some ((v, u), (0, 0))) Q := ⟨v, u, 0, 0, c0, rfl, ⟨by omega, by omega⟩, h⟩
theorem RC_imp {o : Option ((α × σ) × (Nat × Nat))} {Q Q' : α → σ → Nat × Nat → Prop} (h : RC c0 o Q) (hq : ∀ v u c, Q v u c → Q' v u c) : RC c0 o Q' := by
  obtain ⟨v, u, dc, ds, c', h1, h2, h3⟩ := h
  exact ⟨v, u, dc, ds, c', h1, h2, hq _ _ _ h3⟩
theorem RC_then {o : Option ((α × σ) × (Nat × Nat))} {k : α → σ → Option ((β × τ) × (Nat × Nat))} {P : α → σ → Nat × Nat → Prop} {Q : β → τ → Nat × Nat → Prop} (h : RC c0 o P) (hk : ∀ v u c, P v u c → RC c (k v u) Q) : RC c0 (ct o k) Q := by
  obtain ⟨v, u, dc, ds, c', h1, h2, h3⟩ := h
  obtain ⟨v2, u2, dc2, ds2, c2, g1, g2, g3⟩ := hk v u c' h3
  refine ⟨v2, u2, dc + dc2, ds + ds2, c2, ?_, ⟨?_, ?_⟩, g3⟩
  · unfold ct
    rw [h1]
    simp only [Option.bind_some]
    rw [g1]
    rfl
  · have := h2.1; have := g2.1; omega
  · have := h2.2; have := g2.2; omega
theorem RC_if {c : Prop} [Decidable c] {a b : Option ((α × σ) × (Nat × Nat))} {Q : α → σ → Nat × Nat → Prop} (h1 : c → RC c0 a Q) (h2 : ¬ c → RC c0 b Q) : RC c0 (if c then a else b) Q := by
  by_cases h : c
  · rw [if_pos h]; exact h1 h
  · rw [if_neg h]; exact h2 h
theorem RC_y {c : Prop} [Decidable c] {a b : Option ((α × σ) × (Nat × Nat))} {Q : α → σ → Nat × Nat → Prop} (hc : c) (h : RC c0 a Q) : RC c0 (if c then a else b) Q := by rw [if_pos hc]; exact h
theorem RC_n {c : Prop} [Decidable c] {a b : Option ((α × σ) × (Nat × Nat))} {Q : α → σ → Nat × Nat → Prop} (hc : ¬ c) (h : RC c0 b Q) : RC c0 (if c then a else b) Q := by rw [if_neg hc]; exact h
theorem RC_cl {o : Option (β × τ)} {v : β} {u : τ} {k : β → τ → Option ((α × σ) × (Nat × Nat))} {Q : α → σ → Nat × Nat → Prop} (e : o = some (v, u)) (h : RC c0 (k v u) Q) : RC c0 (cl o k) Q := by rw [e]; exact h
theorem RC_cr {o : Option β} {v : β} {k : β → Option ((α × σ) × (Nat × Nat))} {Q : α → σ → Nat × Nat → Prop} (e : o = some v) (h : RC c0 (k v) Q) : RC c0 (cr o k) Q := by rw [e]; exact h
theorem RC_gd {b : Bool} {a : Option ((α × σ) × (Nat × Nat))} {Q : α → σ → Nat × Nat → Prop} (e : b = true) (h : RC c0 a Q) : RC c0 (gd b a) Q := by rw [gd_t e]; exact h
theorem RC_bnd {e : β} {k : β → Option ((α × σ) × (Nat × Nat))} {Q : α → σ → Nat × Nat → Prop} (h : RC c0 (k e) Q) : RC c0 (bnd e k) Q := h
end
/-- an addition to a row, beside whatever else there is -/
theorem RC_add {σ : CS} {l : List Int32} (h : RowL σ l) (hl : 2 * l.length + 64 ≤ 140000) (v : Int32) (x y : Nat) : RC (2 * σ.2.2 0 + x, σ.2.2 0 + y) (C_Row_add v σ) (fun _ u c => RowL u (l ++ [v]) ∧ c = (2 * u.2.2 0 + x, u.2.2 0 + y)) := by
  obtain ⟨σ', dc, ds, e, r, hc, -⟩ := C_Row_add_eq h hl v
  exact ⟨0, σ', dc, ds, _, e, ⟨by have := hc.1; simp only []; omega, by have := hc.2; simp only []; omega⟩, r, rfl⟩
theorem nth_len {α : Type} (A B : List α) (x : α) : (A ++ x :: B).getD A.length x = x := getD_mid _ _ _ _
/-! tokens -/
def TPos (ns : List (List Int32)) (Y : List Int32) (sT : CS) (ts : List AT) : Prop := ∃ L c TS p, TokL sT L c ∧ sT.1 2 = nI p ∧ p ≤ L.length ∧ All2 (TR ns Y) TS L ∧ ts = TS.drop p
def kAt (ts : List AT) (j : Nat) : Int32 := match ts.drop j with
  | a :: _ => a.k
  | [] => 0
theorem All2_get {α β : Type} {R : α → β → Prop} : ∀ {A : List α} {B : List β}, All2 R A B → ∀ (i : Nat) (a : α) (r : List α) (d : β), A.drop i = a :: r → i < B.length ∧ R a (B.getD i d)
  | [], [], _, i, a, r, d, h => by rw [List.drop_nil] at h; cases h
  | x :: A, y :: B, hh, 0, a, r, d, h => by
    rw [List.drop_zero] at h
    injection h with h1 h2
    subst h1
    exact ⟨by simp, hh.1⟩
  | x :: A, y :: B, hh, i + 1, a, r, d, h => by
    obtain ⟨g1, g2⟩ := All2_get hh.2 i a r d h
    exact ⟨by simp only [List.length_cons]; omega, g2⟩
section
variable {ns : List (List Int32)} {Y : List Int32} {sT : CS} {ts : List AT}
theorem T_kind (h : TPos ns Y sT ts) {j : Nat} (hj : j < 1000) : C_Tok_kind (nI j) sT = some (kAt ts j) := by
  obtain ⟨L, c, TS, p, h1, h2, h3, h4, rfl⟩ := h
  obtain ⟨t1, t2, t3, t4, t5, t6, t7, t8, t9, t10⟩ := h1
  have hl := h4.len
  unfold C_Tok_kind C_Tok_kind_37 C_Tok_kind_38
  rw [h2, nI_add, if_neg (nI_pos (by omega)), t1, t5]
  unfold kAt
  rw [List.drop_drop]
  by_cases he : L.length ≤ p + j
  · rw [if_pos (by rw [nI_leI (by omega) (by omega)]; exact he), List.drop_eq_nil_of_le (by omega)]
  · rw [if_neg (by rw [nI_leI (by omega) (by omega)]; exact he), if_neg (by rw [nI_leI (by omega) (by omega)]; omega), gd_t (inB_nI (by omega) (by omega)), nI_clamp (by omega), t8 _ (by omega)]
    cases hd : TS.drop (p + j) with
    | nil => have := List.drop_eq_nil_iff.mp hd; omega
    | cons a r =>
      have := (All2_get h4 (p + j) a r (0, 0, 0) hd).2
      rw [this.k]
theorem T_value (h : TPos ns Y sT ts) {j : Nat} (hj : j < 1000) {a : AT} {r : List AT} (hd : ts.drop j = a :: r) : ∃ v w, C_Tok_value (nI j) sT = some v ∧ TR ns Y a (a.k, v, w) ∧ (j = 0 → C_Tok_length sT = some w) := by
  obtain ⟨L, c, TS, p, h1, h2, h3, h4, rfl⟩ := h
  obtain ⟨t1, t2, t3, t4, t5, t6, t7, t8, t9, t10⟩ := h1
  have hl := h4.len
  rw [List.drop_drop] at hd
  obtain ⟨g1, g2⟩ := All2_get h4 (p + j) a r (0, 0, 0) hd
  refine ⟨(L.getD (p + j) (0, 0, 0)).2.1, (L.getD (p + j) (0, 0, 0)).2.2, ?_, ?_, fun hj0 => ?_⟩
  · unfold C_Tok_value C_Tok_value_37 C_Tok_value_38
    rw [h2, nI_add, if_neg (nI_pos (by omega)), t1, t6, if_neg (by rw [nI_leI (by omega) (by omega)]; omega), if_neg (by rw [nI_leI (by omega) (by omega)]; omega), gd_t (inB_nI (by omega) (by omega)), nI_clamp (by omega), t9 _ g1]
  · have e := g2.k
    generalize L.getD (p + j) (0, 0, 0) = t at *
    obtain ⟨t1, t2, t3⟩ := t
    rw [← e]
    exact g2
  · unfold C_Tok_length C_Tok_length_42 C_Tok_length_43
    rw [hj0, Nat.add_zero] at g1
    rw [h2, if_neg (nI_pos (by omega)), t1, t7, if_neg (by rw [nI_leI (by omega) (by omega)]; omega), if_neg (by rw [nI_leI (by omega) (by omega)]; omega), gd_t (inB_nI (by omega) (by omega)), nI_clamp (by omega), t10 _ g1, hj0, Nat.add_zero]
theorem T_skip (h : TPos ns Y sT ts) {j : Nat} (hj : j < 1000) : ∃ sT', C_Tok_skip (nI j) sT = some (0, sT') ∧ TPos ns Y sT' (ts.drop j) ∧ sT'.2 = sT.2 ∧ sT'.1 0 = sT.1 0 := by
  obtain ⟨L, c, TS, p, h1, h2, h3, h4, rfl⟩ := h
  have hb := h1.2.2.1
  have hc := h1.2.2.2.1
  have hl := h4.len
  unfold C_Tok_skip
  rw [h2, nI_add, h1.1, jmin_nI (by omega) (by omega)]
  refine ⟨_, rfl, ⟨L, c, TS, min (p + j) L.length, ?_, rfl, by omega, h4, ?_⟩, rfl, rfl⟩
  · obtain ⟨t1, t2, t3, t4, t5, t6, t7, t8, t9, t10⟩ := h1
    exact ⟨t1, t2, t3, t4, t5, t6, t7, t8, t9, t10⟩
  · rw [List.drop_drop]
    by_cases he : p + j ≤ L.length
    · rw [Nat.min_eq_left he]
    · rw [Nat.min_eq_right (by omega), List.drop_eq_nil_of_le (by omega), List.drop_eq_nil_of_le (by omega)]
theorem T_left (h : TPos ns Y sT ts) : C_Tok_left sT = some (nI ts.length) ∧ ts.length ≤ 140000 := by
  obtain ⟨L, c, TS, p, h1, h2, h3, h4, rfl⟩ := h
  have hl := h4.len
  have := h1.2.2.1
  have := h1.2.2.2.1
  unfold C_Tok_left
  rw [h1.1, h2, pk_sub h3, List.length_drop, hl]
  exact ⟨rfl, by omega⟩
end
theorem kAt_0 (a : AT) (r : List AT) : kAt (a :: r) 0 = a.k := rfl
theorem kAt_1 (a b : AT) (r : List AT) : kAt (a :: b :: r) 1 = b.k := rfl
theorem C_level (s : Int32) : C_Frm_level s = some (nI (levN s)) := by
  unfold C_Frm_level C_Frm_level_124 C_Frm_level_127 C_Frm_level_130 C_Frm_level_132 levN
  by_cases h10 : s = 10
  · rw [if_pos h10, if_pos (Or.inl h10)]; rfl
  rw [if_neg h10]
  by_cases h11 : s = 11
  · rw [if_pos h11, if_pos (Or.inr (Or.inl h11))]; rfl
  rw [if_neg h11]
  by_cases h12 : s = 12
  · rw [if_pos h12, if_pos (Or.inr (Or.inr (Or.inl h12)))]; rfl
  rw [if_neg h12]
  by_cases h13 : s = 13
  · rw [if_pos h13, if_pos (Or.inr (Or.inr (Or.inr h13)))]; rfl
  rw [if_neg h13]
  by_cases h37 : s = 37
  · rw [if_pos h37, h37]; rfl
  rw [if_neg h37]
  by_cases h38 : s = 38
  · rw [if_pos h38, h38]; rfl
  rw [if_neg h38]
  by_cases h42 : s = 42
  · rw [if_pos h42, h42]; rfl
  rw [if_neg h42]
  by_cases h43 : s = 43
  · rw [if_pos h43, h43]; rfl
  rw [if_neg h43]
  by_cases h45 : s = 45
  · rw [if_pos h45, h45]; rfl
  rw [if_neg h45]
  by_cases h47 : s = 47
  · rw [if_pos h47, h47]; rfl
  rw [if_neg h47]
  by_cases h60 : s = 60
  · rw [if_pos h60, h60]; rfl
  rw [if_neg h60]
  by_cases h62 : s = 62
  · rw [if_pos h62, h62]; rfl
  rw [if_neg h62]
  by_cases h94 : s = 94
  · rw [if_pos h94, h94]; rfl
  rw [if_neg h94]
  by_cases h124 : s = 124
  · rw [if_pos h124, h124]; rfl
  rw [if_neg h124, if_neg (show ¬ (s = 10 ∨ s = 11 ∨ s = 12 ∨ s = 13) by simp [h10, h11, h12, h13]), if_neg (by simp [h42, h47, h37]), if_neg (by simp [h43, h45]), if_neg (by simp [h60, h62]), if_neg h38, if_neg h94, if_neg h124]
  rfl
/-! the four rows of the formulas -/
def capF (sF : CS) : Nat := sF.2.2 0 + sF.2.2 1 + sF.2.2 2 + sF.2.2 3
abbrev fp (sF : CS) (x y : Nat) : Nat × Nat := (2 * capF sF + x, capF sF + y)
/-- the rows: kinds, values, signs, stack -/
def FR4 (sF : CS) (K V S Z : List Int32) : Prop := RowL (rg sF 0) K ∧ RowL (rg sF 1) V ∧ RowL (rg sF 2) S ∧ RowL (rg sF 3) Z
theorem capF_rs {sF u : CS} {r : Nat} (hr : r < 4) : capF (rs sF r u) + (rg sF r).2.2 0 = capF sF + u.2.2 0 := by
  unfold capF rs rg
  simp only []
  rcases (show r = 0 ∨ r = 1 ∨ r = 2 ∨ r = 3 by omega) with rfl | rfl | rfl | rfl
  · rw [if_pos rfl, if_neg (by decide), if_neg (by decide), if_neg (by decide)]; omega
  · rw [if_neg (by decide), if_pos rfl, if_neg (by decide), if_neg (by decide)]; omega
  · rw [if_neg (by decide), if_neg (by decide), if_pos rfl, if_neg (by decide)]; omega
  · rw [if_neg (by decide), if_neg (by decide), if_neg (by decide), if_pos rfl]; omega
theorem rs_num {sF u : CS} {r j : Nat} (hj : j < 100) : (rs sF r u).1 j = sF.1 j := pk_un (by omega)
def Fn0 (sF sF' : CS) : Prop := ∀ j, j < 100 → sF'.1 j = sF.1 j
section
variable {β τ : Type} {Q : β → τ → Nat × Nat → Prop} {sF : CS} {x y : Nat}
/-- to a row of the formulas -/
theorem RC_Fadd {r : Nat} (hr : r < 4) {l : List Int32} (h : RowL (rg sF r) l) (hl : 2 * l.length + 64 ≤ 140000) (v : Int32) {k : CS → Option ((β × τ) × (Nat × Nat))} (hk : ∀ sF', RowL (rg sF' r) (l ++ [v]) → (∀ r', r' ≠ r → rg sF' r' = rg sF r') → Fn0 sF sF' → RC (fp sF' x y) (k sF') Q) : RC (fp sF x y) (ct (C_Row_add v (rg sF r)) (fun _ u => bnd (rs sF r u) k)) Q := by
  have hc0 : (rg sF r).2.2 0 ≤ capF sF := by
    unfold capF rg
    rcases (show r = 0 ∨ r = 1 ∨ r = 2 ∨ r = 3 by omega) with rfl | rfl | rfl | rfl <;> simp only [] <;> omega
  have h1 := RC_add h hl v (2 * (capF sF - (rg sF r).2.2 0) + x) ((capF sF - (rg sF r).2.2 0) + y)
  have e : (2 * (rg sF r).2.2 0 + (2 * (capF sF - (rg sF r).2.2 0) + x), (rg sF r).2.2 0 + ((capF sF - (rg sF r).2.2 0) + y)) = fp sF x y := Prod.ext (by show _ = 2 * capF sF + x; simp only []; omega) (by show _ = capF sF + y; simp only []; omega)
  rw [e] at h1
  refine RC_then h1 (fun _ u c hu => RC_bnd ?_)
  have hcr := capF_rs (sF := sF) (u := u) hr
  have ec : c = fp (rs sF r u) x y := by
    rw [hu.2]
    refine Prod.ext ?_ ?_
    · show 2 * u.2.2 0 + (2 * (capF sF - (rg sF r).2.2 0) + x) = 2 * capF (rs sF r u) + x; omega
    · show u.2.2 0 + ((capF sF - (rg sF r).2.2 0) + y) = capF (rs sF r u) + y; omega
  rw [ec]
  exact hk _ (RowL_rs hu.1) (fun r' hr' => rg_rs hr') (fun j hj => rs_num hj)
/-- a row of the formulas is cut -/
theorem RC_Fcut {r : Nat} (hr : r < 4) {l : List Int32} (h : RowL (rg sF r) l) {n : Nat} (hn : n < 2 ^ 31) {k : CS → Option ((β × τ) × (Nat × Nat))} (hk : ∀ sF', RowL (rg sF' r) (l.take n) → (∀ r', r' ≠ r → rg sF' r' = rg sF r') → Fn0 sF sF' → RC (fp sF' x y) (k sF') Q) : RC (fp sF x y) (cl (C_Row_cut (nI n) (rg sF r)) (fun _ u => bnd (rs sF r u) k)) Q := by
  obtain ⟨u, e1, e2, e3⟩ := C_Row_cut_eq h n hn
  refine RC_cl e1 (RC_bnd ?_)
  have hcr := capF_rs (sF := sF) (u := u) hr
  rw [show u.2.2 0 = (rg sF r).2.2 0 by rw [e3]] at hcr
  have ec : fp sF x y = fp (rs sF r u) x y := Prod.ext (by show 2 * capF sF + x = 2 * capF (rs sF r u) + x; omega) (by show capF sF + y = capF (rs sF r u) + y; omega)
  rw [ec]
  exact hk _ (RowL_rs e2) (fun r' hr' => rg_rs hr') (fun j hj => rs_num hj)
theorem RC_Fset {r : Nat} (hr : r < 4) {l : List Int32} (h : RowL (rg sF r) l) {n : Nat} (hn : n < 2 ^ 31) (v : Int32) {k : CS → Option ((β × τ) × (Nat × Nat))} (hk : ∀ sF', RowL (rg sF' r) (l.set n v) → (∀ r', r' ≠ r → rg sF' r' = rg sF r') → Fn0 sF sF' → RC (fp sF' x y) (k sF') Q) : RC (fp sF x y) (cl (C_Row_set (nI n) v (rg sF r)) (fun _ u => bnd (rs sF r u) k)) Q := by
  obtain ⟨u, e1, e2, e3⟩ := C_Row_set_eq h n hn v
  refine RC_cl e1 (RC_bnd ?_)
  have hcr := capF_rs (sF := sF) (u := u) hr
  rw [show u.2.2 0 = (rg sF r).2.2 0 by rw [e3]] at hcr
  have ec : fp sF x y = fp (rs sF r u) x y := Prod.ext (by show 2 * capF sF + x = 2 * capF (rs sF r u) + x; omega) (by show capF sF + y = capF (rs sF r u) + y; omega)
  rw [ec]
  exact hk _ (RowL_rs e2) (fun r' hr' => rg_rs hr') (fun j hj => rs_num hj)
end
theorem fp_cF (sF : CS) (j : Nat) (v : Int32) (x y : Nat) : fp (cF sF j v) x y = fp sF x y := rfl
