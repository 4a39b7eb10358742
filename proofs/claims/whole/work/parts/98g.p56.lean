/-! ===== layout ===== -/
def padN (off e : Nat) : Nat := (2 ^ e - off % 2 ^ e) % 2 ^ e
def lenI (off : Nat) (i : AI) : Nat := if i.1 = 3 then padN off i.2.1.toNatClampNeg else i.2.2.1
def szL : Nat → List AI → Nat
  | _, [] => 0
  | off, i :: r => lenI off i + szL (off + lenI off i) r
abbrev Sz : Type := Nat × Nat
def offS (s : Sz) (sec : Nat) : Nat := if sec = 1 then s.2 else s.1
def stepE (s : Sz) (e : Ev) : Sz := if e.2.2.2.1 = 1 then (s.1, s.2 + szL s.2 e.2.2.2.2.2) else (s.1 + szL s.1 e.2.2.2.2.2, s.2)
def lay (s : Sz) (E : List Ev) : Sz := E.foldl stepE s
/-- the labels with the addresses that a layout gives them -/
def lbS : Sz → List Ev → List Lb
  | _, [] => []
  | s, e :: r => (if e.1 < 5 then [(e.2.1, e.1, if e.1 = 2 then e.2.2.2.2.1 else nI (offS s e.2.2.2.1))] else []) ++ lbS (stepE s e) r
/-- where the statements stand in their sections -/
def ofS : Sz → List Ev → List Nat
  | _, [] => []
  | s, e :: r => (if e.1 = 5 then [offS s e.2.2.2.1] else []) ++ ofS (stepE s e) r
theorem lay_app (s : Sz) (E F : List Ev) : lay s (E ++ F) = lay (lay s E) F := List.foldl_append
theorem lay_cons (s : Sz) (e : Ev) (E : List Ev) : lay s (e :: E) = lay (stepE s e) E := rfl
theorem lbS_app : ∀ (E F : List Ev) (s : Sz), lbS s (E ++ F) = lbS s E ++ lbS (lay s E) F
  | [], F, s => rfl
  | e :: E, F, s => by
    show _ ++ lbS (stepE s e) (E ++ F) = (_ ++ lbS (stepE s e) E) ++ lbS (lay (stepE s e) E) F
    rw [lbS_app E F, List.append_assoc]
theorem ofS_app : ∀ (E F : List Ev) (s : Sz), ofS s (E ++ F) = ofS s E ++ ofS (lay s E) F
  | [], F, s => rfl
  | e :: E, F, s => by
    show _ ++ ofS (stepE s e) (E ++ F) = (_ ++ ofS (stepE s e) E) ++ ofS (lay (stepE s e) E) F
    rw [ofS_app E F, List.append_assoc]
theorem LbE_cons (e : Ev) (E : List Ev) : LbE (e :: E) = (if e.1 < 5 then [(e.2.1, e.1, e.2.2.2.2.1)] else []) ++ LbE E := by
  unfold LbE lbE
  rw [List.filterMap_cons]
  by_cases h : e.1 < 5
  · rw [if_pos h, if_pos h]; rfl
  · rw [if_neg h, if_neg h]; rfl
theorem StE_cons (e : Ev) (E : List Ev) : StE (e :: E) = (if e.1 = 5 then [e] else []) ++ StE E := by
  unfold StE
  rw [List.filter_cons]
  by_cases h : e.1 = 5
  · rw [if_pos (by simpa using h), if_pos h]; rfl
  · rw [if_neg (by simpa using h), if_neg h]; rfl
theorem LbE_app (E F : List Ev) : LbE (E ++ F) = LbE E ++ LbE F := List.filterMap_append
theorem StE_app (E F : List Ev) : StE (E ++ F) = StE E ++ StE F := List.filter_append _ _
theorem lbS_len : ∀ (E : List Ev) (s : Sz), (lbS s E).length = (LbE E).length
  | [], s => rfl
  | e :: E, s => by
    rw [LbE_cons, List.length_append, ← lbS_len E (stepE s e)]
    show (_ ++ lbS (stepE s e) E).length = _
    rw [List.length_append]
    congr 1
    split <;> rfl
theorem ofS_len : ∀ (E : List Ev) (s : Sz), (ofS s E).length = (StE E).length
  | [], s => rfl
  | e :: E, s => by
    rw [StE_cons, List.length_append, ← ofS_len E (stepE s e)]
    show (_ ++ ofS (stepE s e) E).length = _
    rw [List.length_append]
    congr 1
    split <;> rfl
theorem szL_no3 : ∀ (l : List AI) (off : Nat), (∀ i ∈ l, i.1 ≠ 3) → szL off l = ilens l
  | [], off, _ => rfl
  | i :: r, off, h => by
    rw [ilens_cons, szL]
    have e : lenI off i = i.2.2.1 := by unfold lenI; rw [if_neg (h i List.mem_cons_self)]
    rw [e, szL_no3 r _ (fun j hj => h j (List.mem_cons_of_mem _ hj))]
theorem padN_le (off : Nat) {e : Nat} (he : e ≤ 10) : padN off e ≤ 1023 := by
  unfold padN
  have h1 : 0 < 2 ^ e := Nat.two_pow_pos e
  have h2 : 2 ^ e ≤ 2 ^ 10 := Nat.pow_le_pow_right (by omega) he
  have := Nat.mod_lt (2 ^ e - off % 2 ^ e) h1
  omega
theorem SIt_le {l : List AI} (h : SIt l) (off : Nat) : szL off l ≤ 40000 := by
  rcases h with ⟨h1, h2⟩ | ⟨k, k1, rfl⟩ | ⟨mk, w, lev, R, rfl, hJ, h1, h2⟩
  · rw [szL_no3 l off (fun i hi => (h1 i hi).1)]; exact h2
  · show lenI off _ + 0 ≤ 40000
    unfold lenI
    rw [if_pos rfl]
    show padN off (nI k).toNatClampNeg + 0 ≤ 40000
    rw [nI_clamp (by omega)]
    have := padN_le off k1
    omega
  · have h3 : mk ≠ 3 := by intro z; rw [z] at hJ; exact absurd hJ (by decide)
    rw [szL_no3 _ _ (fun i hi => by rw [List.mem_singleton.mp hi]; exact h3)]
    show 2 * 2 ^ lev + 0 ≤ 40000
    have := (len0_J (w := w) hJ).2.2
    have : 2 ^ lev ≤ 2 ^ 2 := Nat.pow_le_pow_right (by omega) (by omega)
    omega
/-- the events of a text, their number -/
theorem WfE_len {X : List Int32} {E : List Ev} (h : WfE X E) : E.length ≤ X.length := by
  have key : ∀ (m : Nat) (E1 : List Ev) (e : Ev) (E2 : List Ev), E1.length = m → E = E1 ++ e :: E2 → m ≤ e.2.1 := by
    intro m
    induction m with
    | zero => intros; omega
    | succ m ih =>
      intro E1 e E2 h1 h2
      rcases List.eq_nil_or_concat E1 with rfl | ⟨E3, y, rfl⟩
      · simp at h1
      · rw [List.concat_eq_append] at h1 h2
        have h3 := (h _ _ _ h2).1 y (by simp)
        rw [List.append_assoc] at h2
        have h4 := ih E3 y (e :: E2) (by simp at h1; omega) h2
        omega
  rcases List.eq_nil_or_concat E with rfl | ⟨E3, y, hE⟩
  · simp
  · rw [List.concat_eq_append] at hE
    have h1 := key E3.length E3 y [] rfl hE
    have h2 := (h _ _ _ hE).2.1
    rw [hE, List.length_append]
    simp
    omega
def SIts (E : List Ev) : Prop := ∀ e ∈ E, (e.1 = 5 → SIt e.2.2.2.2.2) ∧ (e.1 ≠ 5 → e.2.2.2.2.2 = [])
theorem WfE_SI {X : List Int32} (hX : X.length ≤ 4096) {E : List Ev} (h : WfE X E) : SIts E := fun e he => by
  obtain ⟨E1, E2, rfl⟩ := List.append_of_mem he
  obtain ⟨w1, w2, w3, w4, w5, w6, -⟩ := h E1 e E2 rfl
  exact ⟨fun z => StW_SI hX w2 (w5 z), w6⟩
theorem stepE_le {s : Sz} {e : Ev} (h : (e.1 = 5 → SIt e.2.2.2.2.2) ∧ (e.1 ≠ 5 → e.2.2.2.2.2 = [])) : (stepE s e).1 + (stepE s e).2 ≤ s.1 + s.2 + 40000 ∧ s.1 ≤ (stepE s e).1 ∧ s.2 ≤ (stepE s e).2 := by
  have hz : ∀ off, szL off e.2.2.2.2.2 ≤ 40000 := fun off => by
    by_cases h5 : e.1 = 5
    · exact SIt_le (h.1 h5) off
    · rw [h.2 h5]; show (0 : Nat) ≤ 40000; omega
  unfold stepE
  split
  · have := hz s.2
    simp only []
    omega
  · have := hz s.1
    simp only []
    omega
theorem lay_le : ∀ (E : List Ev) (s : Sz), SIts E → (lay s E).1 + (lay s E).2 ≤ s.1 + s.2 + 40000 * E.length ∧ s.1 ≤ (lay s E).1 ∧ s.2 ≤ (lay s E).2
  | [], s, _ => ⟨by show s.1 + s.2 ≤ _; omega, Nat.le_refl _, Nat.le_refl _⟩
  | e :: E, s, h => by
    have h1 := stepE_le (s := s) (h e List.mem_cons_self)
    have h2 := lay_le E (stepE s e) (fun x hx => h x (List.mem_cons_of_mem _ hx))
    rw [lay_cons, List.length_cons]
    omega
theorem lay_pre {E1 E2 : List Ev} (h : SIts (E1 ++ E2)) (hl : (E1 ++ E2).length ≤ 4096) : (lay (0, 0) E1).1 + (lay (0, 0) E1).2 ≤ 163840000 := by
  have := lay_le E1 (0, 0) (fun x hx => h x (List.mem_append_left _ hx))
  rw [List.length_append] at hl
  have h3 : (0, 0).1 + (0, 0).2 = 0 := rfl
  simp only [] at this
  omega
/-- the reference's labels by kind and place alone, constants with their values -/
def LBk (X : List Int32) (σ : MS) (Λ : List Lb) : Prop := σ.1 5 = nI Λ.length ∧ Λ.length ≤ 2050 ∧ ∀ i, i < Λ.length → (Λ.getD i lb0).1 < X.length ∧ (Λ.getD i lb0).2.1 ≤ 4 ∧ σ.2 5 i = nI ((Λ.getD i lb0).2.1 * 2 ^ 13 + (Λ.getD i lb0).1) ∧ ((Λ.getD i lb0).2.1 = 2 → σ.2 6 i = (Λ.getD i lb0).2.2)
theorem LBs.k {X : List Int32} {σ : MS} {Λ : List Lb} (h : LBs X σ Λ) : LBk X σ Λ := ⟨h.1, h.2.1, fun i hi => ⟨(h.2.2 i hi).1, (h.2.2 i hi).2.1, (h.2.2 i hi).2.2.1, fun _ => (h.2.2 i hi).2.2.2⟩⟩
/-- a statement in the reference's arrays, jumps having grown -/
def StQ (σ : MS) (i : Nat) (e : Ev) : Prop := σ.2 2 i = nI (plc e.2.1 (levI e.2.2.2.2.2).1 e.2.2.2.1 (levI e.2.2.2.2.2).2) ∧ (if (levI e.2.2.2.2.2).2 = 0 then σ.2 4 i = bytI e.2.2.2.2.2 else 0 ≤ σ.2 4 i)
theorem pl_sec {start lev sec kd : Nat} (hs : start < 8192) (h1 : lev < 4) (h2 : sec < 2) (h3 : kd < 4) : (nI (plc start lev sec kd) >>> ((15 : Int32) &&& 31)) &&& 1 = nI sec := by
  rw [nI_shr (k := 15) (by unfold plc; omega) (by decide), nI_and (k := 1) (by unfold plc; omega) (by decide)]
  congr 1
  unfold plc
  omega
theorem pl_kd {start lev sec kd : Nat} (hs : start < 8192) (h1 : lev < 4) (h2 : sec < 2) (h3 : kd < 4) : nI (plc start lev sec kd) >>> ((16 : Int32) &&& 31) = nI kd := by
  rw [nI_shr (k := 16) (by unfold plc; omega) (by decide)]
  congr 1
  unfold plc
  omega
theorem SIt_lev {l : List AI} (h : SIt l) : (levI l).1 < 4 ∧ (levI l).2 < 4 ∧ ((levI l).2 = 0 → (levI l).1 = 0) := by
  rcases h with ⟨h1, h2⟩ | ⟨k, k1, rfl⟩ | ⟨mk, w, lev, R, rfl, hJ, h1, h2⟩
  · rw [levI_0 (fun i hi => (h1 i hi).2)]; exact ⟨by decide, by decide, fun _ => rfl⟩
  · rw [levI_0 (fun i hi => by rw [List.mem_singleton.mp hi]; rfl)]; exact ⟨by decide, by decide, fun _ => rfl⟩
  · have hm := (len0_J (w := w) hJ).2.2
    have e : levI [(mk, w, 2 * 2 ^ lev, R, ([] : List Int32))] = (lev, kdO mk w) := by
      show (if isJ mk = true then (Lof (2 * 2 ^ lev), kdO mk w) else (0, 0)) = _
      rw [if_pos hJ, Lof_2 (by omega)]
    rw [e]
    refine ⟨by show lev < 4; omega, ?_, fun z => ?_⟩
    · show kdO mk w < 4
      unfold kdO; split
      · decide
      · split <;> decide
    · exfalso
      revert z
      show kdO mk w = 0 → False
      unfold kdO
      split
      · intro z; cases z
      · split <;> intro z <;> cases z
theorem neg_and {off e : Nat} (ho : off < 2 ^ 31) (he : e ≤ 10) : (-(nI off)) &&& (((1 : Int32) <<< (nI e &&& 31)) - 1) = nI (padN off e) := by
  have hm : ((((1 : Int32) <<< (nI e &&& 31)) - 1)).toBitVec.toNat = 2 ^ e - 1 := by
    have : ∀ e, e < 11 → ((((1 : Int32) <<< (nI e &&& 31)) - 1)).toBitVec.toNat = 2 ^ e - 1 := by decide
    exact this e (by omega)
  rw [pk_and _ e hm]
  congr 1
  have hb : (-(nI off)).toBitVec.toNat = (2 ^ 32 - off) % 2 ^ 32 := by
    rw [Int32.toBitVec_neg, BitVec.toNat_neg, nI_tn (by omega)]
  rw [hb]
  unfold padN
  have hp : (2 : Nat) ^ 32 = 2 ^ e * 2 ^ (32 - e) := by rw [← Nat.pow_add]; congr 1; omega
  have h1 : 0 < 2 ^ e := Nat.two_pow_pos e
  have hd := Nat.div_add_mod off (2 ^ e)
  rw [Nat.mod_mod_of_dvd _ (by rw [hp]; exact Nat.dvd_mul_right _ _)]
  have hlt := Nat.mod_lt off h1
  have hle : off / 2 ^ e + 1 ≤ 2 ^ (32 - e) := by
    have : off / 2 ^ e < 2 ^ (32 - e) := by
      rw [Nat.div_lt_iff_lt_mul h1, Nat.mul_comm, ← hp]; omega
    omega
  have e2 : 2 ^ 32 - off = (2 ^ e - off % 2 ^ e) + 2 ^ e * (2 ^ (32 - e) - (off / 2 ^ e + 1)) := by
    rw [Nat.mul_sub, ← hp, Nat.mul_add, Nat.mul_one]
    have : 2 ^ e * (off / 2 ^ e + 1) ≤ 2 ^ e * 2 ^ (32 - e) := Nat.mul_le_mul_left _ hle
    rw [← hp, Nat.mul_add, Nat.mul_one] at this
    omega
  rw [e2, Nat.add_mul_mod_self_left]
theorem levI_J {mk w : Int32} {lev : Nat} {R : List XSt} (hJ : isJ mk = true) (hl : lev ≤ 2) : levI [(mk, w, 2 * 2 ^ lev, R, ([] : List Int32))] = (lev, kdO mk w) := by
  show (if isJ mk = true then (Lof (2 * 2 ^ lev), kdO mk w) else (0, 0)) = _
  rw [if_pos hJ, Lof_2 hl]
theorem kdO_pos (mk w : Int32) : 0 < kdO mk w ∧ kdO mk w < 4 := by
  unfold kdO
  split
  · decide
  · split <;> decide
theorem M_sizeAt_eq {σ : MS} {i : Nat} {e : Ev} (hi : i < 1030) (h : StQ σ i e) (hS : SIt e.2.2.2.2.2) (hp : e.2.1 < 8192) (hs : e.2.2.2.1 < 2) {off : Nat} (ho : off < 2 ^ 31) : M_sizeAt (nI i) (nI off) σ = some (nI (szL off e.2.2.2.2.2)) := by
  unfold M_sizeAt M_sizeAt_59
  have hin : inB (nI i) 1030 = true := inB_nI hi (by omega)
  rw [nI_clamp (by omega)]
  simp only [hin, gd_t]
  obtain ⟨q1, q2⟩ := h
  obtain ⟨l1, l2, l3⟩ := SIt_lev hS
  rw [q1, pl_kd hp l1 hs l2, pl_lev hp l1 hs l2]
  rcases hS with ⟨h1, h2⟩ | ⟨k, k1, hk⟩ | ⟨mk, w, lev, R, hk, hJ, h1, h2⟩
  · have e0 := levI_0 (fun i hi => (h1 i hi).2)
    rw [e0] at q2 ⊢
    rw [if_pos rfl] at q2
    rw [q2, bytI_n (fun i hi => (h1 i hi).1), szL_no3 _ _ (fun i hi => (h1 i hi).1)]
    rw [if_pos (show (0 : Int32) ≤ nI (ilens e.2.2.2.2.2) by rw [show (0 : Int32) = nI 0 from rfl, nI_leI (by omega) (by omega)]; omega), if_pos (by decide)]
  · rw [hk] at q2 ⊢
    rw [levI_0 (fun i hi => by rw [List.mem_singleton.mp hi]; rfl)] at q2
    rw [if_pos rfl] at q2
    have eb : bytI [((3 : Int32), nI k, 0, ([] : List XSt), ([] : List Int32))] = -1 - nI k := by
      show (if (3 : Int32) = 3 then -1 - nI k else nI (ilens [((3 : Int32), nI k, 0, ([] : List XSt), ([] : List Int32))])) = _
      rw [if_pos rfl]
    rw [q2, eb]
    have hneg : ∀ k, k < 11 → ¬ (0 : Int32) ≤ -1 - nI k ∧ (-1 : Int32) - (-1 - nI k) = nI k := by decide
    rw [if_neg (hneg k (by omega)).1, (hneg k (by omega)).2, neg_and ho k1]
    show some (nI (padN off k)) = some (nI (lenI off (3, nI k, 0, [], []) + 0))
    unfold lenI
    rw [if_pos rfl]
    show _ = some (nI (padN off (nI k).toNatClampNeg + 0))
    rw [nI_clamp (by omega)]
    rfl
  · have hm := (len0_J (w := w) hJ).2.2
    have hkd := kdO_pos mk w
    rw [hk] at q2 ⊢
    rw [levI_J hJ (by omega)] at q2 ⊢
    rw [if_neg (by show ¬ kdO mk w = 0; omega)] at q2
    rw [if_pos q2, if_neg (show ¬ nI (kdO mk w) ≤ 0 by rw [show (0 : Int32) = nI 0 from rfl, nI_leI (by omega) (by omega)]; omega)]
    have h3 : mk ≠ 3 := by intro z; rw [z] at hJ; exact absurd hJ (by decide)
    rw [szL_no3 _ _ (fun i hi => by rw [List.mem_singleton.mp hi]; exact h3)]
    have : ∀ l, l < 3 → (2 : Int32) <<< (nI l &&& 31) = nI (2 * 2 ^ l + 0) := by decide
    exact congrArg some (this lev (by omega))
theorem M_sectionOf_eq {σ : MS} {i : Nat} {e : Ev} (hi : i < 1030) (h : StQ σ i e) (hS : SIt e.2.2.2.2.2) (hp : e.2.1 < 8192) (hs : e.2.2.2.1 < 2) : M_sectionOf (nI i) σ = some (nI e.2.2.2.1) := by
  unfold M_sectionOf
  rw [gd_t (inB_nI hi (by omega)), nI_clamp (by omega), h.1]
  obtain ⟨l1, l2, l3⟩ := SIt_lev hS
  rw [pl_sec hp l1 hs l2]
