/-! ===== name(): what stands for a name in an expression ===== -/
def ηR (X : List Int32) (Λ : List Lb) (base addr : Int32) (start : Nat) (k : Int32) (a : AT) : Int32 × Bool :=
  if k = 3 then (a.v, false) else if k = 7 then (addr, false) else if k = 2 then (if 0 ≤ regR a.nm then (0, true) else (valO base Λ (fnd X a.nm Λ 0), (fnd X a.nm Λ 0).isNone))
  else (valO base Λ (nrS X start (tw X a.p - 48) (decide (tw X (a.p + 1) = 102)) none Λ 0), (nrS X start (tw X a.p - 48) (decide (tw X (a.p + 1) = 102)) none Λ 0).isNone)
def cstO (Λ : List Lb) : Option Nat → Bool
  | some i => decide ((Λ.getD i lb0).2.1 = 2)
  | none => false
def loR (X : List Int32) (Λ : List Lb) (a : AT) : Bool := if a.nm = dotB then true else if 0 ≤ regR a.nm then true else !(cstO Λ (fnd X a.nm Λ 0))
theorem b2_ite (p : Prop) [Decidable p] : b2 (decide p) = if p then 1 else 0 := by
  by_cases h : p <;> simp [h, b2]
theorem name_91 {σ : MS} {X : List Int32} {N : Nat} (hX : X.length ≤ 4096) {Λ : List Lb} (hL : LBs X σ Λ) {S V : List Int32} {m l : Bool} (hP : PS σ S V) (hr : S.length + V.length < 4100) (h24 : σ.1 24 = b2 m) (h26 : σ.1 26 = b2 l) (dot c : Bool) (o : Option Nat) (ho : ∀ k, o = some k → k < Λ.length) :
    ∃ σ', M_name_91 N (b2 dot) (oI o) (b2 c) σ = some (0, σ') ∧ PS σ' S ((if dot = true then σ.1 19 else valO (baseR σ) Λ o) :: V) ∧ σ'.1 24 = b2 (m || (!dot && o.isNone)) ∧ σ'.1 26 = b2 (l || !c) ∧ (∀ j, j ≠ 24 → j ≠ 26 → j ≠ 27 → j ≠ 28 → σ'.1 j = σ.1 j) ∧ (∀ k, k ≠ 7 → σ'.2 k = σ.2 k) := by
  have hlen := hL.2.1
  have oin := oI_neg o (fun k hk => by have := ho k hk; omega)
  have e1 : M_name_91 N (b2 dot) (oI o) (b2 c) σ = M_name_109 N (b2 dot) (oI o) (b2 (l || !c)) σ := by
    unfold M_name_91 M_name_104
    rw [h26]
    cases l <;> cases c <;> rfl
  have e2 : M_name_109 N (b2 dot) (oI o) (b2 (l || !c)) σ = M_name_133 N (b2 dot) (oI o) (b2 (m || (!dot && o.isNone))) (sF σ 26 (b2 (l || !c))) := by
    unfold M_name_109 M_name_128 M_name_132
    rw [gd_t (b2_isB _)]
    simp only [bnd]
    rw [show (sF σ 26 (b2 (l || !c))).1 24 = b2 m from h24]
    cases m with
    | true => rfl
    | false =>
      rw [if_pos (show b2 false = 0 from rfl)]
      cases dot with
      | true => rfl
      | false =>
        rw [if_pos (show b2 false = 0 from rfl)]
        cases o with
        | none => rw [if_neg (by decide)]; rfl
        | some k => rw [if_pos (oin.2.mpr (by simp))]; rfl
  have hP2 : PS (sF (sF σ 26 (b2 (l || !c))) 24 (b2 (m || (!dot && o.isNone)))) S V := (hP.sF _ (by decide) (by decide)).sF _ (by decide) (by decide)
  have fin : ∀ v : Int32, ∃ σ', M_name_161 N v (sF (sF σ 26 (b2 (l || !c))) 24 (b2 (m || (!dot && o.isNone)))) = some (0, σ') ∧ PS σ' S (v :: V) ∧ σ'.1 24 = b2 (m || (!dot && o.isNone)) ∧ σ'.1 26 = b2 (l || !c) ∧ (∀ j, j ≠ 24 → j ≠ 26 → j ≠ 27 → j ≠ 28 → σ'.1 j = σ.1 j) ∧ (∀ k, k ≠ 7 → σ'.2 k = σ.2 k) := by
    intro v
    obtain ⟨σ', a1, a2, a3, a4⟩ := M_value_eq hP2 hr v
    refine ⟨σ', ?_, a2, ?_, ?_, ?_, ?_⟩
    · unfold M_name_161
      rw [a1]
      rfl
    · rw [a3.1 24 (by decide) (by decide) (by decide)]; rfl
    · rw [a3.1 26 (by decide) (by decide) (by decide)]; rfl
    · intro j j1 j2 j3 j4
      by_cases j5 : j = 25
      · subst j5; rw [a4]; rfl
      · rw [a3.1 j j5 j3 j4, sF_ne _ _ j1, sF_ne _ _ j2]
    · intro k hk
      rw [a3.2 k hk]; rfl
  rw [e1, e2]
  unfold M_name_133
  rw [gd_t (b2_isB _)]
  simp only [bnd]
  cases dot with
  | true =>
    rw [if_neg (by decide)]
    exact fin (σ.1 19)
  | false =>
    rw [if_pos (show b2 false = 0 from rfl)]
    cases o with
    | none =>
      rw [if_neg (by decide)]
      exact fin 0
    | some k =>
      have hk := ho k rfl
      rw [if_pos (oin.2.mpr (by simp))]
      have hL2 : LBs X (sF (sF σ 26 (b2 (l || !c))) 24 (b2 (m || (!false && (some k).isNone)))) Λ := ⟨hL.1, hL.2.1, hL.2.2⟩
      rw [show oI (some k) = nI k from rfl, M_valueOf_eq hX hL2 hk]
      exact fin _
theorem LBs.fe {X : List Int32} {σ0 σ : MS} {Λ : List Lb} (h : LBs X σ0 Λ) (hF : FE σ0 σ) : LBs X σ Λ := by
  obtain ⟨h1, h2, h3⟩ := h
  refine ⟨?_, h2, ?_⟩
  · rw [hF.1 5 (by omega) (by decide) (by decide) (by decide) (by decide) (by decide)]; exact h1
  · intro i hi
    rw [hF.2 5 (by decide), hF.2 6 (by decide)]
    exact h3 i hi
theorem baseR_fe {σ0 σ : MS} (hF : FE σ0 σ) : baseR σ = baseR σ0 := by
  unfold baseR
  rw [hF.1 6 (by omega) (by decide) (by decide) (by decide) (by decide) (by decide)]
theorem dot_iff {X : List Int32} {p e : Nat} (hp : p < e) (he : e ≤ X.length) : cut X p e = dotB ↔ (e - p = 1 ∧ X.getD p 0 = 46) := by
  constructor
  · intro h
    have hl := congrArg List.length h
    rw [cut_len X he] at hl
    have h0 := congrArg (fun l => l.getD 0 0) h
    try simp only [] at h0
    rw [cut_getD X (by omega), Nat.add_zero] at h0
    exact ⟨hl, h0⟩
  · rintro ⟨h1, h2⟩
    refine list_eq_of_getD (by rw [cut_len X he, h1]; rfl) (fun k hk => ?_)
    rw [cut_len X he] at hk
    have : k = 0 := by omega
    subst this
    rw [cut_getD X (by omega), Nat.add_zero, h2]
    rfl
theorem OpN_mk {N : Nat} {X : List Int32} {σ0 : MS} {Λ : List Lb} (hN : 4200 < N) (T0 : TX σ0 (tw X) X.length) (hL : LBs X σ0 Λ) (start : Nat) : OpN N X σ0 (ηR X Λ (baseR σ0) (σ0.1 19) start) (loR X Λ) := by
  intro a σ S V m l hTF hk hF h11 h12 hP hr h24 h26
  have hX := T0.small
  have T := hF.tx T0
  obtain ⟨t1, t2, t3, t4⟩ := hTF
  obtain ⟨g1, g2, g3, g4, g5⟩ := t4 hk
  have hpl : ∀ c ∈ cut X a.p a.e, isPl c = true := cut_pl X (by omega) (by omega)
  have hL2 := hL.fe hF
  have hb := baseR_fe hF
  have h19 : σ.1 19 = σ0.1 19 := hF.1 19 (by omega) (by decide) (by decide) (by decide) (by decide) (by decide)
  have hdot := dot_iff (X := X) t2 t3
  -- what is looked up
  have e1 : ∃ (dot c : Bool) (o : Option Nat), M_name N σ = M_name_91 N (b2 dot) (oI o) (b2 c) σ ∧ (∀ k, o = some k → k < Λ.length) ∧ (dot = true ↔ a.nm = dotB) ∧ (dot = false → (o = if 0 ≤ regR a.nm then none else fnd X a.nm Λ 0)) ∧ (loR X Λ a = !c) := by
    have h68 : ∀ (d : Bool) (o : Option Nat), (∀ k, o = some k → k < Λ.length) → M_name_68 N (b2 d) (oI o) σ = M_name_91 N (b2 d) (oI o) (b2 (cstO Λ o)) σ := by
      intro d o ho
      unfold M_name_68 M_name_90
      cases o with
      | none => rw [if_pos (by decide)]; rfl
      | some k =>
        have hk := ho k rfl
        obtain ⟨q1, q2, q3⟩ := hL2
        obtain ⟨r1, r2, r3, r4⟩ := q3 k hk
        rw [show oI (some k) = nI k from rfl, if_neg (nI_pos (by omega)), gd_t (inB_nI (by omega) (by omega)), nI_clamp (by omega), r3, (lb_kind r2 (by omega)).1]
        by_cases y : (Λ.getD k lb0).2.1 = 2
        · rw [if_pos (by rw [y]; rfl), show cstO Λ (some k) = true from decide_eq_true y]
          rfl
        · rw [if_neg (by rw [show (2 : Int32) = nI 2 from rfl, nI_eq (by omega) (by omega)]; exact y)]
          rw [show cstO Λ (some k) = false from decide_eq_false y]
          rfl
    have hff : ∀ k, fnd X a.nm Λ 0 = some k → k < Λ.length := fun k hk => by have := fnd_lt X a.nm Λ 0 k hk; omega
    have h32 : M_name_32 N 0 σ = M_name_68 N (b2 false) (oI (if 0 ≤ regR a.nm then none else fnd X a.nm Λ 0)) σ := by
      unfold M_name_32 M_name_52
      rw [if_pos rfl, h11, h12, M_register_eq T (by omega) (by omega) t3, M_find_eq T hN hL2 (by omega) t3 hpl, ← g1]
      simp only [cr, Option.bind_some]
      by_cases y : 0 ≤ regR a.nm
      · rw [if_neg (Int32.not_lt.mpr y), if_pos y]
        rfl
      · rw [if_pos (Int32.not_le.mp y), if_neg y]
        rfl
    by_cases hd : a.nm = dotB
    · refine ⟨true, false, none, ?_, fun k hk => (by cases hk), ⟨fun _ => hd, fun _ => rfl⟩, fun y => (by cases y), by unfold loR; rw [if_pos hd]; rfl⟩
      obtain ⟨d1, d2⟩ := hdot.mp (g1.symm.trans hd)
      unfold M_name
      rw [h11, h12, pk_sub (by omega), d1, if_pos (show nI 1 = 1 from rfl), gd_t (inB_nI (by omega) (by omega)), nI_clamp (by omega), T.text a.p (by omega), if_pos d2]
      unfold M_name_32 M_name_52
      rw [if_neg (by decide)]
      exact h68 true none (fun k hk => by cases hk)
    · have hd2 : ¬ (a.e - a.p = 1 ∧ X.getD a.p 0 = 46) := fun y => hd (g1.trans (hdot.mpr y))
      have hoo : ∀ k, (if 0 ≤ regR a.nm then none else fnd X a.nm Λ 0) = some k → k < Λ.length := by
        intro k hk
        split at hk
        · cases hk
        · exact hff k hk
      refine ⟨false, cstO Λ (if 0 ≤ regR a.nm then none else fnd X a.nm Λ 0), (if 0 ≤ regR a.nm then none else fnd X a.nm Λ 0), ?_, ?_, ⟨fun y => (by cases y), fun y => absurd y hd⟩, fun _ => rfl, ?_⟩
      · rw [← h68 false _ hoo, ← h32]
        unfold M_name M_name_31
        rw [h11, h12, pk_sub (by omega), gd_t (inB_nI (by omega) (by omega)), nI_clamp (by omega), T.text a.p (by omega)]
        by_cases d1 : a.e - a.p = 1
        · rw [d1, if_pos (show nI 1 = 1 from rfl), if_neg (fun y => hd2 ⟨d1, y⟩)]
        · rw [if_neg (by rw [show (1 : Int32) = nI 1 from rfl, nI_eq (by omega) (by omega)]; exact d1)]
      · exact hoo
      · unfold loR
        rw [if_neg hd]
        by_cases y : 0 ≤ regR a.nm
        · rw [if_pos y, if_pos y]
          rfl
        · rw [if_neg y, if_neg y]
  obtain ⟨dot, c, o, n1, n2, n3, n4, n5⟩ := e1
  obtain ⟨σ', a1, a2, a3, a4, a5, a6⟩ := name_91 (N := N) hX hL2 hP hr h24 h26 dot c o n2
  have hη : ηR X Λ (baseR σ0) (σ0.1 19) start (nmK a) a = ((if dot = true then σ.1 19 else valO (baseR σ) Λ o), !dot && o.isNone) := by
    unfold ηR nmK
    cases hdv : dot with
    | true =>
      rw [if_pos (n3.mp hdv), if_neg (by decide), if_pos rfl, if_pos rfl, h19]
      rfl
    | false =>
      have hnd : a.nm ≠ dotB := fun y => by have := n3.mpr y; rw [hdv] at this; cases this
      have ho := n4 hdv
      rw [if_neg hnd, if_neg (by decide), if_neg (by decide), if_pos rfl, ho, hb]
      by_cases y : 0 ≤ regR a.nm
      · rw [if_pos y, if_pos y]
        rfl
      · rw [if_neg y, if_neg y]
        rfl
  refine ⟨σ', n1.trans a1, ?_, ?_, ?_, ⟨?_, ?_⟩, a5 14 (by decide) (by decide) (by decide) (by decide), a5 25 (by decide) (by decide) (by decide) (by decide), a5 9 (by decide) (by decide) (by decide) (by decide)⟩
  · rw [hη]; exact a2
  · rw [hη]; exact a3
  · rw [n5]; exact a4
  · intro j j0 j1 j2 j3 j4 j5
    rw [a5 j j1 j3 j4 j5]
    exact hF.1 j j0 j1 j2 j3 j4 j5
  · intro k hk
    rw [a6 k hk]
    exact hF.2 k hk
theorem OpB_mk {N : Nat} {X : List Int32} {σ0 : MS} {Λ : List Lb} (hN : 4200 < N) (T0 : TX σ0 (tw X) X.length) (hL : LBs X σ0 Λ) {cur start : Nat} (hc : σ0.1 18 = nI cur) (hcur : cur < 1030) (hst : σ0.2 2 cur &&& 8191 = nI start) (hs : start < 8192) : OpB N X σ0 (ηR X Λ (baseR σ0) (σ0.1 19) start) := by
  intro a σ m hTF hk hF h24
  have hM := M_near_eq (hF.tx T0) hN (hL.fe hF) (cur := cur) (start := start) (by rw [hF.1 18 (by omega) (by decide) (by decide) (by decide) (by decide) (by decide)]; exact hc) hcur (by rw [hF.2 2 (by decide)]; exact hst) hs (tw X a.p - 48) (decide (tw X (a.p + 1) = 102)) h24
  rw [b2_ite, baseR_fe hF] at hM
  have hη : ηR X Λ (baseR σ0) (σ0.1 19) start (nrK a) a = (valO (baseR σ0) Λ (nrS X start (tw X a.p - 48) (decide (tw X (a.p + 1) = 102)) none Λ 0), (nrS X start (tw X a.p - 48) (decide (tw X (a.p + 1) = 102)) none Λ 0).isNone) := by
    have h8 := (isOp_nr a)
    unfold ηR
    rw [if_neg (fun y => by rcases h8.2.2 with z | z <;> rw [z] at y <;> exact absurd y (by decide)), if_neg (fun y => h8.2.1 (Or.inr y)), if_neg (fun y => h8.2.1 (Or.inl y))]
  refine ⟨sF σ 24 (b2 (m || (nrS X start (tw X a.p - 48) (decide (tw X (a.p + 1) = 102)) none Λ 0).isNone)), ?_, ?_, ?_, ?_⟩
  · rw [hη]; exact hM
  · rw [hη]; exact sF_at _ _ _
  · intro j hj; exact sF_ne _ _ hj
  · rfl
