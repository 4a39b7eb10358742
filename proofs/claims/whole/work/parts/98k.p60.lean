/-! ===== stretch(): jumps grow ===== -/
def grE (X : List Int32) (Λ : List Lb) (B : Nat) : Sz → List Ev → List Ev
  | _, [] => []
  | s, e :: r => (e.1, e.2.1, e.2.2.1, e.2.2.2.1, e.2.2.2.2.1, e.2.2.2.2.2.map (growI (ηR X Λ (nI B) (nI (adS B s e.2.2.2.1)) e.2.1) (nI (adS B s e.2.2.2.1)))) :: grE X Λ B (stepE s e) r
def anyG (X : List Int32) (Λ : List Lb) (B : Nat) : Sz → List Ev → Bool
  | _, [] => false
  | s, e :: r => e.2.2.2.2.2.any (growB (ηR X Λ (nI B) (nI (adS B s e.2.2.2.1)) e.2.1) (nI (adS B s e.2.2.2.1))) || anyG X Λ B (stepE s e) r
abbrev grX (X : List Int32) (E : List Ev) : List Ev := grE X (lbS (0, 0) E) (bsE E) (0, 0) E
abbrev anX (X : List Int32) (E : List Ev) : Bool := anyG X (lbS (0, 0) E) (bsE E) (0, 0) E
def strE (X : List Int32) : Nat → Nat → List Ev → Nat × List Ev
  | 0, k, E => (k, E)
  | n + 1, k, E => if anX X E = true then strE X n (k + 1) (grX X E) else (k, E)
def GrR (e f : Ev) : Prop := f.1 = e.1 ∧ f.2.1 = e.2.1 ∧ f.2.2.1 = e.2.2.1 ∧ f.2.2.2.1 = e.2.2.2.1 ∧ f.2.2.2.2.1 = e.2.2.2.2.1 ∧ (f.2.2.2.2.2 = e.2.2.2.2.2 ∨ (∃ mk w lev R, e.2.2.2.2.2 = [(mk, w, 2 * 2 ^ lev, R, [])] ∧ isJ mk = true ∧ lev < lvM mk ∧ f.2.2.2.2.2 = [(mk, w, 2 * 2 ^ (lev + 1), R, [])]))
theorem growI_id {η : Int32 → AT → Int32 × Bool} {a : Int32} {i : AI} (h : growB η a i = false) : growI η a i = i := by unfold growI; rw [h]; rfl
theorem growB_nJ {η : Int32 → AT → Int32 × Bool} {a : Int32} {i : AI} (h : isJ i.1 = false) : growB η a i = false := by unfold growB; rw [h]; rfl
theorem map_growI_id {η : Int32 → AT → Int32 × Bool} {a : Int32} : ∀ {l : List AI}, (∀ i ∈ l, growB η a i = false) → l.map (growI η a) = l
  | [], _ => rfl
  | i :: r, h => by rw [List.map_cons, growI_id (h i List.mem_cons_self), map_growI_id (fun j hj => h j (List.mem_cons_of_mem _ hj))]
theorem grow_it {η : Int32 → AT → Int32 × Bool} {a : Int32} {l : List AI} (h : SIt l) : (l.any (growB η a) = false ∧ l.map (growI η a) = l) ∨ (l.any (growB η a) = true ∧ ∃ mk w lev R, l = [(mk, w, 2 * 2 ^ lev, R, [])] ∧ isJ mk = true ∧ LvR mk w ≤ lev ∧ lev < lvM mk ∧ l.map (growI η a) = [(mk, w, 2 * 2 ^ (lev + 1), R, [])]) := by
  by_cases hn : l.any (growB η a) = false
  · left
    refine ⟨hn, map_growI_id (fun i hi => ?_)⟩
    have := List.any_eq_false.mp hn i hi
    simpa using this
  · right
    have ht : l.any (growB η a) = true := by simpa using hn
    refine ⟨ht, ?_⟩
    obtain ⟨i, hi, hg⟩ := List.any_eq_true.mp ht
    have hJi : isJ i.1 = true := by
      cases hj : isJ i.1 with
      | true => rfl
      | false => rw [growB_nJ hj] at hg; cases hg
    rcases h with ⟨h1, h2⟩ | ⟨k, k1, rfl⟩ | ⟨mk, w, lev, R, rfl, hJ, h1, h2⟩
    · rw [(h1 i hi).2] at hJi; cases hJi
    · rw [List.mem_singleton.mp hi] at hJi; exact absurd (show isJ 3 = true from hJi) (by decide)
    · rw [List.mem_singleton.mp hi] at hg
      have hm := (len0_J (w := w) hJ).2.2
      have hlt : lev < lvM mk := by
        unfold growB at hg
        simp only [Bool.and_eq_true, decide_eq_true_eq] at hg
        have := hg.1.1.1.2
        rw [Lof_2 (by omega)] at this
        exact this
      refine ⟨mk, w, lev, R, rfl, hJ, h1, hlt, ?_⟩
      rw [List.map_cons, List.map_nil]
      unfold growI
      rw [if_pos hg]
      show [(mk, w, 2 * (2 * 2 ^ lev), R, [])] = _
      rw [Nat.pow_succ, Nat.mul_comm (2 ^ lev) 2]
theorem grE_all (X : List Int32) (Λ : List Lb) (B : Nat) : ∀ (E : List Ev) (s : Sz), SIts E → All2 GrR E (grE X Λ B s E)
  | [], s, _ => trivial
  | e :: r, s, h => by
    refine ⟨⟨rfl, rfl, rfl, rfl, rfl, ?_⟩, grE_all X Λ B r (stepE s e) (fun x hx => h x (List.mem_cons_of_mem _ hx))⟩
    show List.map _ e.2.2.2.2.2 = _ ∨ (∃ mk w lev R, _ ∧ _ ∧ _ ∧ List.map _ e.2.2.2.2.2 = _)
    by_cases h5 : e.1 = 5
    · rcases grow_it ((h e List.mem_cons_self).1 h5) (η := ηR X Λ (nI B) (nI (adS B s e.2.2.2.1)) e.2.1) (a := nI (adS B s e.2.2.2.1)) with ⟨-, g⟩ | ⟨-, mk, w, lev, R, g1, g2, g3, g4, g5⟩
      · exact Or.inl g
      · exact Or.inr ⟨mk, w, lev, R, g1, g2, g4, g5⟩
    · left
      rw [(h e List.mem_cons_self).2 h5]
      rfl
theorem All2_split {α β : Type} {R : α → β → Prop} : ∀ {E : List α} {F1 : List β} {f : β} {F2 : List β}, All2 R E (F1 ++ f :: F2) → ∃ E1 e E2, E = E1 ++ e :: E2 ∧ All2 R E1 F1 ∧ R e f ∧ All2 R E2 F2
  | [], [], f, F2, h => h.elim
  | [], _ :: _, f, F2, h => h.elim
  | e :: E, [], f, F2, h => ⟨[], e, E, rfl, trivial, h.1, h.2⟩
  | e :: E, g :: F1, f, F2, h => by
    obtain ⟨E1, e', E2, h1, h2, h3, h4⟩ := All2_split h.2
    exact ⟨e :: E1, e', E2, by rw [h1]; rfl, ⟨h.1, h2⟩, h3, h4⟩
theorem All2_mem {α β : Type} {R : α → β → Prop} : ∀ {E : List α} {F : List β}, All2 R E F → ∀ f ∈ F, ∃ e ∈ E, R e f
  | [], [], _, f, hf => by cases hf
  | e :: E, g :: F, h, f, hf => by
    rcases List.mem_cons.mp hf with rfl | hf
    · exact ⟨e, List.mem_cons_self, h.1⟩
    · obtain ⟨e', h1, h2⟩ := All2_mem h.2 f hf
      exact ⟨e', List.mem_cons_of_mem _ h1, h2⟩
theorem LbE_gr : ∀ {E F : List Ev}, All2 GrR E F → LbE F = LbE E
  | [], [], _ => rfl
  | e :: E, f :: F, h => by
    obtain ⟨h1, h2, h3, h4, h5, h6⟩ := h.1
    rw [LbE_cons, LbE_cons, LbE_gr h.2, h1, h2, h5]
theorem StE_gr : ∀ {E F : List Ev}, All2 GrR E F → (StE F).length = (StE E).length
  | [], [], _ => rfl
  | e :: E, f :: F, h => by
    rw [StE_cons, StE_cons, List.length_append, List.length_append, StE_gr h.2, h.1.1]
    congr 1
    split <;> rfl
theorem StW_gr {X : List Int32} {Λ : List Lb} {e f : Ev} (h : StW X Λ e) (hg : GrR e f) : StW X Λ f := by
  obtain ⟨a, r, o, lev, w1, w2, w3, w4, w5, w6, w7⟩ := h
  obtain ⟨h1, h2, h3, h4, h5, h6⟩ := hg
  unfold StW
  rw [h2]
  rcases h6 with g | ⟨mk, w, lev', R, g1, g2, g3, g4⟩
  · rw [g]; exact ⟨a, r, o, lev, w1, w2, w3, w4, w5, w6, w7⟩
  · have hm := (len0_J (w := w) g2).2.2
    rw [g1] at w6
    rcases w7 with ⟨it, hit, hJ, j1, j2⟩ | ⟨hn, -⟩
    · obtain ⟨k1, k2, -⟩ := stm_J hit hJ
      have hJ' : isJ (srO o r).2.2.1 = true := by rw [k2] at hJ; exact hJ
      have w6' := w6
      rw [k1] at w6'
      unfold sI curL at w6'
      simp only [List.map_cons, List.map_nil, hJ', if_true] at w6'
      injection w6' with w6a
      simp only [Prod.mk.injEq] at w6a
      obtain ⟨m1, m2, m3, m4, -⟩ := w6a
      have hll : lev' = lev := by
        have e1 : Lof (2 * 2 ^ lev') = lev' := Lof_2 (by omega)
        have hjm := (len0_J (w := it.2.1) hJ).2.2
        have e2 : Lof (2 * 2 ^ lev) = lev := Lof_2 (by omega)
        rw [m3] at e1
        omega
      refine ⟨a, r, o, lev + 1, w1, w2, w3, w4, w5, ?_, Or.inl ⟨it, hit, hJ, by omega, ?_⟩⟩
      · rw [g4, k1]
        unfold sI curL
        simp only [List.map_cons, List.map_nil, hJ', if_true]
        rw [m1, m2, m4, hll]
      · rw [k2]
        show lev + 1 ≤ lvM (srO o r).2.2.1
        rw [← m1]
        omega
    · exfalso
      rw [curL_id hn] at w6
      have := hn (mk, w, 2 * 2 ^ lev', R, []) (by rw [← w6]; exact List.mem_singleton.mpr rfl)
      rw [show isJ mk = false from this] at g2
      cases g2
theorem WfE_gr {X : List Int32} {E F : List Ev} (hW : WfE X E) (h : All2 GrR E F) : WfE X F := fun F1 f F2 hF => by
  rw [hF] at h
  obtain ⟨E1, e, E2, hE, h1, h2, h3⟩ := All2_split h
  obtain ⟨w1, w2, w3, w4, w5, w6, w7, w8, w9⟩ := hW E1 e E2 hE
  have h2' := h2
  obtain ⟨g1, g2, g3, g4, g5, g6⟩ := h2
  unfold WfP
  rw [LbE_gr h1, g1, g2, g3, g4]
  refine ⟨fun f' hf' => ?_, w2, w3, w4, fun z => StW_gr (w5 z) h2', fun z => ?_, w7, w8, w9⟩
  · obtain ⟨e', k1, k2⟩ := All2_mem h1 f' hf'
    rw [k2.2.1]
    exact w1 e' k1
  · rcases g6 with g | ⟨mk, w, lev', R, k1, -⟩
    · rw [g]; exact w6 z
    · rw [w6 z] at k1; cases k1
theorem grE_app (X : List Int32) (Λ : List Lb) (B : Nat) : ∀ (E F : List Ev) (s : Sz), grE X Λ B s (E ++ F) = grE X Λ B s E ++ grE X Λ B (lay s E) F
  | [], F, s => rfl
  | e :: E, F, s => by
    show _ :: grE X Λ B (stepE s e) (E ++ F) = _ :: (grE X Λ B (stepE s e) E ++ _)
    rw [grE_app X Λ B E F (stepE s e)]
    rfl
theorem grE_id {X : List Int32} {Λ : List Lb} {B : Nat} : ∀ {E : List Ev} {s : Sz}, anyG X Λ B s E = false → grE X Λ B s E = E
  | [], s, _ => rfl
  | e :: E, s, h => by
    rw [anyG, Bool.or_eq_false_iff] at h
    rw [grE, grE_id h.2, map_growI_id (fun i hi => by have := List.any_eq_false.mp h.1 i hi; simpa using this)]
def muI (i : AI) : Nat := if isJ i.1 = true then lvM i.1 - Lof i.2.2.1 else 0
def muE (E : List Ev) : Nat := (E.map (fun e => (e.2.2.2.2.2.map muI).sum)).sum
theorem muE_cons (e : Ev) (E : List Ev) : muE (e :: E) = (e.2.2.2.2.2.map muI).sum + muE E := by
  unfold muE
  rw [List.map_cons, List.sum_cons]
theorem mu_J {mk w : Int32} {lev : Nat} {R : List XSt} (hJ : isJ mk = true) (hl : lev ≤ 2) : ([(mk, w, 2 * 2 ^ lev, R, ([] : List Int32))].map muI).sum = lvM mk - lev := by
  show muI (mk, w, 2 * 2 ^ lev, R, []) + 0 = _
  unfold muI
  rw [if_pos hJ, Lof_2 hl]
  rfl
theorem mu_gr {X : List Int32} {Λ : List Lb} {B : Nat} : ∀ {E : List Ev} {s : Sz}, SIts E → muE (grE X Λ B s E) + (if anyG X Λ B s E = true then 1 else 0) ≤ muE E
  | [], s, _ => by show 0 + (if false = true then 1 else 0) ≤ 0; decide
  | e :: E, s, h => by
    have ih := mu_gr (X := X) (Λ := Λ) (B := B) (E := E) (s := stepE s e) (fun x hx => h x (List.mem_cons_of_mem _ hx))
    rw [grE, muE_cons, muE_cons, anyG]
    show (List.map muI (e.2.2.2.2.2.map _)).sum + muE (grE X Λ B (stepE s e) E) + _ ≤ _
    by_cases h5 : e.1 = 5
    · rcases grow_it ((h e List.mem_cons_self).1 h5) (η := ηR X Λ (nI B) (nI (adS B s e.2.2.2.1)) e.2.1) (a := nI (adS B s e.2.2.2.1)) with ⟨g1, g2⟩ | ⟨g0, mk, w, lev, R, g1, g2, g3, g4, g5⟩
      · rw [g1, g2, Bool.false_or]; omega
      · have hm := (len0_J (w := w) g2).2.2
        rw [g0, g5, g1, Bool.true_or, mu_J g2 (by omega), mu_J g2 (by omega)]
        split at ih <;> split <;> omega
    · rw [(h e List.mem_cons_self).2 h5]
      show 0 + _ + (if (false || _) = true then 1 else 0) ≤ 0 + _
      rw [Bool.false_or]
      omega
theorem mu_le : ∀ {E : List Ev}, SIts E → muE E ≤ 2 * (StE E).length
  | [], _ => Nat.le_refl _
  | e :: E, h => by
    have ih := mu_le (E := E) (fun x hx => h x (List.mem_cons_of_mem _ hx))
    rw [muE_cons, StE_cons, List.length_append]
    by_cases h5 : e.1 = 5
    · rw [if_pos h5]
      have : (e.2.2.2.2.2.map muI).sum ≤ 2 := by
        have hz : ∀ l : List AI, (∀ i ∈ l, isJ i.1 = false) → (l.map muI).sum = 0 := by
          intro l
          induction l with
          | nil => intro _; rfl
          | cons i r ihl =>
            intro hl
            rw [List.map_cons, List.sum_cons, ihl (fun j hj => hl j (List.mem_cons_of_mem _ hj))]
            unfold muI
            rw [if_neg (by rw [hl i List.mem_cons_self]; decide)]
        rcases (h e List.mem_cons_self).1 h5 with ⟨h1, h2⟩ | ⟨k, k1, hk⟩ | ⟨mk, w, lev, R, hk, hJ, h1, h2⟩
        · rw [hz _ (fun i hi => (h1 i hi).2)]; omega
        · rw [hk, hz _ (fun i hi => by rw [List.mem_singleton.mp hi]; rfl)]; omega
        · have hm := (len0_J (w := w) hJ).2.2
          rw [hk, mu_J hJ (by omega)]; omega
      simp only [List.length_cons, List.length_nil]
      omega
    · rw [if_neg h5, (h e List.mem_cons_self).2 h5]
      simp
      omega
section
variable {N : Nat} {X : List Int32} {E : List Ev} {σ : MS} {ln : Nat}
def FAr (σ τ : MS) : Prop := (∀ j, volA j = false → τ.1 j = σ.1 j) ∧ (∀ k, k ≠ 7 → k ≠ 2 → τ.2 k = σ.2 k)
theorem FAr.kf {σ τ : MS} (h : FAr σ τ) : KF σ τ := ⟨h.1 1 (by decide), h.1 2 (by decide), h.1 3 (by decide), h.2 0 (by decide) (by decide), h.2 1 (by decide) (by decide)⟩
theorem AgC.far {τ : MS} (C : AgC N X E ln σ) (h : FAr σ τ) : AgC N X E ln τ := by
  obtain ⟨hN, T0, hL, h6, h15, hln, h14, hW⟩ := C
  refine ⟨hN, h.kf.tx T0, ⟨by rw [h.1 5 (by decide)]; exact hL.1, hL.2.1, fun k hk => ?_⟩, by rw [h.1 6 (by decide)]; exact h6, by rw [h.1 15 (by decide)]; exact h15, hln, by rw [h.1 14 (by decide)]; exact h14, hW⟩
  rw [h.2 5 (by decide) (by decide), h.2 6 (by decide) (by decide)]
  exact hL.2.2 k hk
def SrI (X : List Int32) (E : List Ev) (σ : MS) (E1 : List Ev) (τ : MS) : Prop := FAr σ τ ∧ (∀ i, i < (StE E1).length → StQ τ i ((StE (grE X (lbS (0, 0) E) (bsE E) (0, 0) E1)).getD i ev0)) ∧ (∀ i, (StE E1).length ≤ i → τ.2 2 i = σ.2 2 i)
theorem StE_grE_len (X : List Int32) (Λ : List Lb) (B : Nat) : ∀ (E : List Ev) (s : Sz), (StE (grE X Λ B s E)).length = (StE E).length
  | [], s => rfl
  | e :: E, s => by
    rw [grE, StE_cons, StE_cons, List.length_append, List.length_append, StE_grE_len X Λ B E (stepE s e)]
    congr 1
    show (if e.1 = 5 then [(e.1, e.2.1, e.2.2.1, e.2.2.2.1, e.2.2.2.2.1, e.2.2.2.2.2.map (growI (ηR X Λ (nI B) (nI (adS B s e.2.2.2.1)) e.2.1) (nI (adS B s e.2.2.2.1))))] else []).length = (if e.1 = 5 then [e] else []).length
    split <;> rfl
set_option maxHeartbeats 1000000 in
theorem str_loop (C : AgC N X E ln σ) (h4 : σ.1 4 = nI (StE E).length) (hSn : (StE E).length ≤ 1025) (hS : ∀ i, i < (StE E).length → StQ σ i ((StE E).getD i ev0)) (hO : ∀ i, i < (StE E).length → σ.2 3 i = nI ((ofS (0, 0) E).getD i 0)) {rec7 : Int32 → MS → Option (Int32 × MS)} {Q : Int32 → MS → Prop} :
    ∀ (E2 E1 : List Ev) (m : Nat) (τ : MS) (b : Bool), E = E1 ++ E2 → SrI X E σ E1 τ → (StE E2).length < m → (∀ τ', SrI X E σ E τ' → RR (M_stretch_113 N rec7 (b2 (b || anyG X (lbS (0, 0) E) (bsE E) (lay (0, 0) E1) E2)) (if (b || anyG X (lbS (0, 0) E) (bsE E) (lay (0, 0) E1) E2) = true then τ'.1 8 + 1 else τ'.1 8) τ') Q) → RR (M_stretch_19 N rec7 m (b2 b) (nI (StE E1).length) τ) Q := by
  obtain ⟨hN, T0, hL, h6, h15, hln, h14, hW⟩ := id C
  have hX := T0.small
  have hSI := WfE_SI hX hW
  intro E2
  induction E2 with
  | nil =>
    intro E1 m τ b hE hI hm go
    rw [List.append_nil] at hE
    subst hE
    obtain ⟨m', rfl⟩ : ∃ m', m = m' + 1 := ⟨m - 1, by omega⟩
    rw [M_stretch_19]
    have e4 : τ.1 4 = nI (StE E).length := by rw [hI.1.1 4 (by decide)]; exact h4
    show RR (if τ.1 4 ≤ nI (StE E).length then _ else _) _
    refine RR_y (by rw [e4]; exact Int32.le_refl _) ?_
    have g := go τ hI
    rw [anyG, Bool.or_false] at g
    cases b with
    | true => rw [if_pos rfl] at g; exact RR_n (by decide) g
    | false => rw [if_neg (by decide)] at g; exact RR_y (by decide) g
  | cons e r ih =>
    intro E1 m τ b hE hI hm go
    have hE' : E = (E1 ++ [e]) ++ r := by rw [hE, List.append_assoc]; rfl
    have elay : lay (0, 0) (E1 ++ [e]) = stepE (lay (0, 0) E1) e := by rw [lay_app]; rfl
    have egr : grE X (lbS (0, 0) E) (bsE E) (0, 0) (E1 ++ [e]) = grE X (lbS (0, 0) E) (bsE E) (0, 0) E1 ++ [(e.1, e.2.1, e.2.2.1, e.2.2.2.1, e.2.2.2.2.1, e.2.2.2.2.2.map (growI (ηE X E (lay (0, 0) E1) e) (aE E (lay (0, 0) E1) e)))] := grE_app _ _ _ _ _ _
    have hmemE : e ∈ E := by rw [hE]; simp
    by_cases h5 : e.1 = 5
    · have hw := hW E1 e r hE
      have hpos := hw.2.1
      have hsec := hw.2.2.1
      have hSI5 := (hSI e hmemE).1 h5
      have eSt : StE E = StE E1 ++ ([e] ++ StE r) := by rw [hE, StE_app, StE_cons, if_pos h5]
      have hSl : (StE E1).length < (StE E).length := by rw [eSt]; simp
      have hq : StQ τ (StE E1).length e := by
        have := hS (StE E1).length hSl
        rw [show (StE E).getD (StE E1).length ev0 = e by rw [eSt]; exact getD_mid _ _ _ _] at this
        unfold StQ at this ⊢
        rw [hI.2.2 _ (Nat.le_refl _), hI.1.2 4 (by decide) (by decide)]
        exact this
      have eof : ofS (0, 0) E = ofS (0, 0) E1 ++ (offS (lay (0, 0) E1) e.2.2.2.1 :: ofS (stepE (lay (0, 0) E1) e) r) := by
        rw [hE, ofS_app]
        show _ ++ ((if e.1 = 5 then _ else _) ++ _) = _
        rw [if_pos h5]
        rfl
      have ho : τ.2 3 (StE E1).length = nI (offS (lay (0, 0) E1) e.2.2.2.1) := by
        rw [hI.1.2 3 (by decide) (by decide), hO _ hSl, eof, ← ofS_len E1 (0, 0), getD_mid]
      have hsr : (StE (e :: r)).length = (StE r).length + 1 := by rw [StE_cons, if_pos h5]; simp
      have hst' : (StE (E1 ++ [e])).length = (StE E1).length + 1 := by rw [StE_snoc, if_pos h5]; simp
      have eStg : StE (grE X (lbS (0, 0) E) (bsE E) (0, 0) (E1 ++ [e])) = StE (grE X (lbS (0, 0) E) (bsE E) (0, 0) E1) ++ [(e.1, e.2.1, e.2.2.1, e.2.2.2.1, e.2.2.2.2.1, e.2.2.2.2.2.map (growI (ηE X E (lay (0, 0) E1) e) (aE E (lay (0, 0) E1) e)))] := by
        rw [egr, StE_snoc, if_pos h5]
      obtain ⟨m', rfl⟩ : ∃ m', m = m' + 1 := ⟨m - 1, by omega⟩
      obtain ⟨l1, l2, l3⟩ := SIt_lev hSI5
      have e4 : τ.1 4 = nI (StE E).length := by rw [hI.1.1 4 (by decide)]; exact h4
      have s1030 : inB (nI (StE E1).length) 1030 = true := inB_nI (by omega) (by omega)
      -- on to the next
      have nx : ∀ (τ' : MS) (b' : Bool), b' = (b || e.2.2.2.2.2.any (growB (ηE X E (lay (0, 0) E1) e) (aE E (lay (0, 0) E1) e))) → SrI X E σ (E1 ++ [e]) τ' → RR (M_stretch_19 N rec7 m' (b2 b') (nI (StE E1).length + 1) τ') Q := by
        intro τ' b' hb hI'
        have := ih (E1 ++ [e]) m' τ' b' hE' hI' (by omega) (fun τ'' hI'' => by
          have g := go τ'' hI''
          rw [elay, hb, Bool.or_assoc]
          exact g)
        rw [hst'] at this
        rw [nI_1]
        exact this
      have old : ∀ τ' : MS, FAr σ τ' → (∀ i, i ≠ (StE E1).length → τ'.2 2 i = τ.2 2 i) → τ'.2 4 = τ.2 4 → StQ τ' (StE E1).length (e.1, e.2.1, e.2.2.1, e.2.2.2.1, e.2.2.2.2.1, e.2.2.2.2.2.map (growI (ηE X E (lay (0, 0) E1) e) (aE E (lay (0, 0) E1) e))) → SrI X E σ (E1 ++ [e]) τ' := by
        intro τ' t1 t2 t3 t4
        refine ⟨t1, fun i hi => ?_, fun i hi => ?_⟩
        · rw [eStg]
          rw [hst'] at hi
          have hgl := StE_grE_len X (lbS (0, 0) E) (bsE E) E1 (0, 0)
          by_cases hi2 : i = (StE E1).length
          · rw [hi2, ← hgl, getD_mid, hgl]; exact t4
          · rw [gD_l (by omega)]
            have := hI.2.1 i (by omega)
            unfold StQ at this ⊢
            rw [t2 i hi2, t3]
            exact this
        · rw [hst'] at hi
          rw [t2 i (by omega)]
          exact hI.2.2 i (by omega)
      rw [M_stretch_19]
      show RR (if τ.1 4 ≤ nI (StE E1).length then _ else _) _
      refine RR_n (by rw [e4, nI_leI (by omega) (by omega)]; omega) (RR_gd s1030 ?_)
      rw [nI_clamp (by omega), hq.1, pl_kd (by omega) l1 hsec l2]
      by_cases hkd : (levI e.2.2.2.2.2).2 = 0
      · -- no jump
        refine RR_y (by rw [hkd]; rfl) ?_
        unfold M_stretch_89
        have hno : e.2.2.2.2.2.any (growB (ηE X E (lay (0, 0) E1) e) (aE E (lay (0, 0) E1) e)) = false ∧ e.2.2.2.2.2.map (growI (ηE X E (lay (0, 0) E1) e) (aE E (lay (0, 0) E1) e)) = e.2.2.2.2.2 := by
          rcases grow_it hSI5 (η := ηE X E (lay (0, 0) E1) e) (a := aE E (lay (0, 0) E1) e) with g | ⟨g0, mk, w, lev, R, g1, g2, g3, g4, g5⟩
          · exact g
          · exfalso
            have hm := (len0_J (w := w) g2).2.2
            rw [g1, levI_J g2 (by omega)] at hkd
            have := kdO_pos mk w
            have : kdO mk w = 0 := hkd
            omega
        refine nx τ b (by rw [hno.1, Bool.or_false]) (old τ hI.1 (fun _ _ => rfl) rfl ?_)
        rw [hno.2]
        exact hq
      · -- a jump
        refine RR_n (by rw [show (0 : Int32) = nI 0 from rfl, nI_eq (by omega) (by omega)]; exact hkd) (RR_bnd ?_)
        have F23 : FAr τ (sF τ 23 0) := ⟨fun j hj => by rw [sF_ne _ _ (volA_Z hj).2.2.2.2.2.2.2.1], fun _ _ _ => rfl⟩
        have FA2 : FAr σ (sF τ 23 0) := ⟨fun j hj => (F23.1 j hj).trans (hI.1.1 j hj), fun k h1 h2 => (F23.2 k h1 h2).trans (hI.1.2 k h1 h2)⟩
        refine RR_then (M_again_eq (C.far FA2) hE h5 (by omega) (show StQ (sF τ 23 0) (StE E1).length e from hq) ho (md := 1) (Or.inl rfl)) (fun _ τ4 h44 => ?_)
        rcases h44 with ⟨z, -⟩ | ⟨-, FA4, hgr, -⟩
        · exact absurd z (by decide)
        have hcase : ∃ mk w lev R, e.2.2.2.2.2 = [(mk, w, 2 * 2 ^ lev, R, [])] ∧ isJ mk = true ∧ LvR mk w ≤ lev ∧ lev ≤ lvM mk := by
          rcases hSI5 with ⟨h1, h2⟩ | ⟨k, k1, hk⟩ | ⟨mk, w, lev, R, hk, hJ, h1, h2⟩
          · exfalso; apply hkd; rw [levI_0 (fun i hi => (h1 i hi).2)]
          · exfalso; apply hkd; rw [hk, levI_0 (fun i hi => by rw [List.mem_singleton.mp hi]; rfl)]
          · exact ⟨mk, w, lev, R, hk, hJ, h1, h2⟩
        obtain ⟨mk, w, lev, R, hit, hJ, hl1, hl2⟩ := hcase
        have hm := (len0_J (w := w) hJ).2.2
        have h23 := hgr _ hit hJ
        rw [show (decide ((1 : Int32) = 1) && growB (ηE X E (lay (0, 0) E1) e) (aE E (lay (0, 0) E1) e) (mk, w, 2 * 2 ^ lev, R, [])) = growB (ηE X E (lay (0, 0) E1) e) (aE E (lay (0, 0) E1) e) (mk, w, 2 * 2 ^ lev, R, []) by simp] at h23
        have FAr4 : FAr σ τ4 := ⟨fun j hj => (FA4.1 j hj).trans (FA2.1 j hj), fun k h1 h2 => (FA4.2 k h1).trans (FA2.2 k h1 h2)⟩
        have t2 : τ4.2 2 = τ.2 2 := FA4.2 2 (by decide)
        have t4' : τ4.2 4 = τ.2 4 := FA4.2 4 (by decide)
        have hany : e.2.2.2.2.2.any (growB (ηE X E (lay (0, 0) E1) e) (aE E (lay (0, 0) E1) e)) = growB (ηE X E (lay (0, 0) E1) e) (aE E (lay (0, 0) E1) e) (mk, w, 2 * 2 ^ lev, R, []) := by
          rw [hit, List.any_cons, List.any_nil, Bool.or_false]
        have hmap : e.2.2.2.2.2.map (growI (ηE X E (lay (0, 0) E1) e) (aE E (lay (0, 0) E1) e)) = [growI (ηE X E (lay (0, 0) E1) e) (aE E (lay (0, 0) E1) e) (mk, w, 2 * 2 ^ lev, R, [])] := by rw [hit]; rfl
        -- the two ends of 72
        have w72 : ∀ τ5 : MS, τ5.1 23 = τ4.1 23 → SrI X E σ (E1 ++ [e]) τ5 → RR (M_stretch_72 N rec7 (M_stretch_19 N rec7 m') (b2 b) (nI (StE E1).length) τ5) Q := by
          intro τ5 k1 k2
          unfold M_stretch_72 M_stretch_83 M_stretch_88 M_stretch_89
          rw [k1, h23]
          generalize hg : growB (ηE X E (lay (0, 0) E1) e) (aE E (lay (0, 0) E1) e) (mk, w, 2 * 2 ^ lev, R, []) = g at *
          cases b with
          | true => exact RR_n (by decide) (nx τ5 true (by rw [hany, Bool.true_or]) k2)
          | false =>
            refine RR_y (by decide) ?_
            cases g with
            | true => exact RR_n (by decide) (nx τ5 true (by rw [hany]; rfl) k2)
            | false => exact RR_y (by decide) (nx τ5 false (by rw [hany]; rfl) k2)
        by_cases hg : growB (ηE X E (lay (0, 0) E1) e) (aE E (lay (0, 0) E1) e) (mk, w, 2 * 2 ^ lev, R, []) = true
        · have hlt : lev < lvM mk := by
            unfold growB at hg
            simp only [Bool.and_eq_true, decide_eq_true_eq] at hg
            have := hg.1.1.1.2
            rw [Lof_2 (by omega)] at this
            exact this
          refine RR_n (by rw [h23, hg]; decide) (RR_gd s1030 (RR_gd s1030 (RR_bnd (w72 _ rfl ?_))))
          refine old _ ⟨fun j hj => FAr4.1 j hj, fun k h1 h2 => by rw [sA_ne h2]; exact FAr4.2 k h1 h2⟩ (fun i hi => ?_) (by rw [sA_ne (by decide)]; exact t4') ?_
          · rw [sA_eq, pk_un hi, t2]
          · rw [hmap]
            have ei : growI (ηE X E (lay (0, 0) E1) e) (aE E (lay (0, 0) E1) e) (mk, w, 2 * 2 ^ lev, R, []) = (mk, w, 2 * 2 ^ (lev + 1), R, []) := by
              unfold growI
              rw [if_pos hg]
              show (mk, w, 2 * (2 * 2 ^ lev), R, []) = _
              rw [Nat.pow_succ, Nat.mul_comm (2 ^ lev) 2]
            rw [ei]
            have q1 := hq.1
            have q2 := hq.2
            rw [hit, levI_J hJ (by omega)] at q1 q2
            have hkp := kdO_pos mk w
            rw [if_neg (show ¬ kdO mk w = 0 by omega)] at q2
            refine ⟨?_, ?_⟩
            · rw [sA_eq, pk_us, t2, q1]
              show nI (plc e.2.1 lev e.2.2.2.1 (kdO mk w)) + 8192 = nI (plc e.2.1 (levI [(mk, w, 2 * 2 ^ (lev + 1), R, [])]).1 e.2.2.2.1 (levI [(mk, w, 2 * 2 ^ (lev + 1), R, [])]).2)
              rw [levI_J hJ (by omega), show (8192 : Int32) = nI 8192 from rfl, nI_add]
              congr 1
              unfold plc
              omega
            · show (if (levI [(mk, w, 2 * 2 ^ (lev + 1), R, [])]).2 = 0 then _ else _)
              rw [levI_J hJ (by omega), if_neg (show ¬ kdO mk w = 0 by omega), sA_ne (by decide), t4']
              exact q2
        · have hgf : growB (ηE X E (lay (0, 0) E1) e) (aE E (lay (0, 0) E1) e) (mk, w, 2 * 2 ^ lev, R, []) = false := by simpa using hg
          refine RR_y (by rw [h23, hgf]; rfl) (w72 _ rfl (old _ FAr4 (fun i hi => by rw [t2]) t4' ?_))
          rw [hmap, growI_id hgf, ← hit]
          unfold StQ
          rw [t2, t4']
          exact hq
    · -- a label
      have hitem := (hSI e hmemE).2 h5
      have hst' : (StE (E1 ++ [e])).length = (StE E1).length := by rw [StE_snoc, if_neg h5, List.append_nil]
      have hsr : (StE (e :: r)).length = (StE r).length := by rw [StE_cons, if_neg h5]; rfl
      have hI' : SrI X E σ (E1 ++ [e]) τ := by
        refine ⟨hI.1, ?_, ?_⟩
        · rw [hst', egr, StE_snoc, if_neg (show ¬ e.1 = 5 from h5), List.append_nil]
          exact hI.2.1
        · rw [hst']; exact hI.2.2
      have := ih (E1 ++ [e]) m τ b hE' hI' (by omega) (fun τ'' hI'' => by
        have g := go τ'' hI''
        rw [anyG, hitem, List.any_nil, Bool.false_or] at g
        rw [elay]
        exact g)
      rw [hst'] at this
      exact this
end
