/-! ===== past READ: what a statement leaves ===== -/
def Lof (len : Nat) : Nat := if len = 8 then 2 else if len = 4 then 1 else 0
def ckI (η : Int32 → AT → Int32 × Bool) (a : Int32) (i : AI) : Nat :=
  if i.1 = 0 ∨ i.1 = 1 ∨ i.1 = 2 ∨ i.1 = 3 ∨ i.1 = 4 then 0
  else if i.1 = 61 ∨ i.1 = 64 then mdF (evV η i.2.2.2.1).2.1 (evV η i.2.2.2.1).2.2
  else if isJ i.1 = true then ckJ η a i.1 (Lof i.2.2.1) i.2.2.2.1
  else ckS η a i.1 i.2.2.2.1
def byI (η : Int32 → AT → Int32 × Bool) (a : Int32) (i : AI) : List Int32 :=
  if i.1 = 0 then wB i.2.1 i.2.2.1
  else if i.1 = 2 then List.replicate i.2.2.1 0
  else if i.1 = 1 ∨ i.1 = 3 then []
  else if i.1 = 4 then i.2.2.2.2.map (fun c => c &&& 255) ++ List.replicate (i.2.2.1 - i.2.2.2.2.length) 0
  else if i.1 = 61 then wB (evV η i.2.2.2.1).1 i.2.2.1
  else if i.1 = 64 then aB i.2.1 ((evV η i.2.2.2.1).1 - a)
  else if isJ i.1 = true then jB i.1 i.2.1 ((evV η i.2.2.2.1).1 - a) (Lof i.2.2.1)
  else wB (i.2.1 ||| scat i.1 (numI i.1 (evV η i.2.2.2.1).1 a)) i.2.2.1
def ckB (η : Int32 → AT → Int32 × Bool) (a : Int32) : List AI → Nat
  | [] => 0
  | i :: r => if ckI η a i ≠ 0 then ckI η a i else ckB η a r
def byB (η : Int32 → AT → Int32 × Bool) (a : Int32) (l : List AI) : List Int32 := l.flatMap (byI η a)
def curL (lev : Nat) (i : AI) : AI := if isJ i.1 = true then (i.1, i.2.1, 2 * 2 ^ lev, i.2.2.2) else i
def bsA (η : Int32 → AT → Int32 × Bool) (lo : AT → Bool) (σ0 : MS) (cur lev : Nat) (o : OD) (ts : List AT) : MS :=
  if o.1 = 1 ∨ o.1 = 2 then sF σ0 16 (o.1 - 1)
  else if o.1 = 7 then sA σ0 4 cur (-1 - (f1T η lo 0 10 ts).2.1)
  else if (o.1 = 0 ∨ o.1 = 9 ∨ o.1 = 10) ∧ isJ (srO o ts).2.2.1 = true then sF σ0 23 (b2 (jgR η σ0 (srO o ts).2.2.1 lev (srO o ts).2.2.2.1))
  else σ0
theorem Lof_2 {L : Nat} (h : L ≤ 2) : Lof (2 * 2 ^ L) = L := by
  rcases (show L = 0 ∨ L = 1 ∨ L = 2 by omega) with e | e | e <;> subst e <;> rfl
theorem ckB_0 {η : Int32 → AT → Int32 × Bool} {a : Int32} : ∀ {l : List AI}, (∀ i ∈ l, ckI η a i = 0) → ckB η a l = 0
  | [], _ => rfl
  | i :: r, h => by
    simp only [ckB]
    rw [if_neg (fun z => z (h i (List.mem_cons_self ..)))]
    exact ckB_0 (fun x hx => h x (List.mem_cons_of_mem _ hx))
theorem ckB_1 (η : Int32 → AT → Int32 × Bool) (a : Int32) (i : AI) : ckB η a [i] = ckI η a i := by
  simp only [ckB]
  by_cases c : ckI η a i = 0
  · rw [if_neg (fun z => z c), c]
  · rw [if_pos c]
theorem byB_1 (η : Int32 → AT → Int32 × Bool) (a : Int32) (i : AI) : byB η a [i] = byI η a i := by
  unfold byB
  simp
theorem nm_ck (η : Int32 → AT → Int32 × Bool) (a : Int32) (n : Nat) : ∀ Rs : List (List XSt), ckB η a (Rs.map (fun R => ((61 : Int32), (0 : Int32), n, R, ([] : List Int32)))) = nmF η Rs
  | [] => rfl
  | R :: r => by
    have e : ckI η a ((61 : Int32), (0 : Int32), n, R, ([] : List Int32)) = mdF (evV η R).2.1 (evV η R).2.2 := by
      unfold ckI
      dsimp only
      rw [if_neg (by decide), if_pos (by decide)]
    simp only [List.map_cons, ckB, nmF, e]
    rw [nm_ck η a n r]
theorem nm_by (η : Int32 → AT → Int32 × Bool) (a : Int32) (n : Nat) (Rs : List (List XSt)) : byB η a (Rs.map (fun R => ((61 : Int32), (0 : Int32), n, R, ([] : List Int32)))) = nmB η n Rs := by
  unfold byB nmB
  rw [List.flatMap_map]
  congr 1
theorem st_by (η : Int32 → AT → Int32 × Bool) (a z : Int32) (hz : z = 0 ∨ z = 1) (Ss : List (List Int32)) : byB η a (Ss.map (fun s => ((4 : Int32), (0 : Int32), s.length + z.toNatClampNeg, ([] : List XSt), s))) = stB z Ss := by
  unfold byB stB
  rw [List.flatMap_map]
  congr 1
  funext s
  unfold byI
  dsimp only
  rw [if_neg (by decide), if_neg (by decide), if_neg (by decide), if_pos rfl, Nat.add_sub_cancel_left]
  rcases hz with e | e <;> subst e <;> rfl
theorem li_by (η : Int32 → AT → Int32 × Bool) (a : Int32) (l : List (Int32 × Nat)) : byB η a (l.map (fun x => ((0 : Int32), x.1, x.2, ([] : List XSt), ([] : List Int32)))) = liB l := by
  unfold byB liB
  rw [List.flatMap_map]
  congr 1
section
variable {N : Nat} {X : List Int32} {σ0 : MS} {Λ : List Lb} {ln cur start : Nat}
def nk (_ : List Int32) : Bool := false
def ArP (X : List Int32) (Λ : List Lb) (σ0 : MS) (ln cur start lev : Nat) (o : OD) (ts : List AT) (σ : MS) : Prop :=
  CK X σ0 ln (ckB (η0 X Λ σ0 start) (σ0.1 19) ((stm (η0 X Λ σ0 start) (loR X Λ) nk o ts).2.1.map (curL lev))) (fun σ => ∃ Bs, GR X (bsA (η0 X Λ σ0 start) (loR X Λ) σ0 cur lev o ts) (stm (η0 X Λ σ0 start) (loR X Λ) nk o ts).2.2 Bs σ ∧ (ckB (η0 X Λ σ0 start) (σ0.1 19) ((stm (η0 X Λ σ0 start) (loR X Λ) nk o ts).2.1.map (curL lev)) = 0 → Bs = byB (η0 X Λ σ0 start) (σ0.1 19) ((stm (η0 X Λ σ0 start) (loR X Λ) nk o ts).2.1.map (curL lev)))) σ
theorem curL_id {lev : Nat} {l : List AI} (h : ∀ i ∈ l, isJ i.1 = false) : l.map (curL lev) = l := by
  conv => rhs; rw [← List.map_id l]
  refine List.map_congr_left (fun i hi => ?_)
  unfold curL
  rw [h i hi]
  rfl
theorem Ar_of {lev : Nat} {o : OD} {ts : List AT} {σ : MS} {its : List AI} {rest : List AT} {Bs : List Int32} {σb : MS} (e : stm (η0 X Λ σ0 start) (loR X Λ) nk o ts = (0, its, rest)) (hj : ∀ i ∈ its, isJ i.1 = false) (eb : bsA (η0 X Λ σ0 start) (loR X Λ) σ0 cur lev o ts = σb) (hG : GR X σb rest Bs σ) (hz : ∀ i ∈ its, ckI (η0 X Λ σ0 start) (σ0.1 19) i = 0) (hB : Bs = byB (η0 X Λ σ0 start) (σ0.1 19) its) : ArP X Λ σ0 ln cur start lev o ts σ := by
  unfold ArP
  rw [e, eb]
  dsimp only
  rw [curL_id hj, ckB_0 hz]
  exact CK.n (fun z => z.2 rfl) ⟨Bs, hG, fun _ => hB⟩
theorem srO_mk {o : OD} {ts : List AT} (hx : oneX o.2.1 = true) (hz : (srO o ts).1 = 0) (hJ : isJ (srO o ts).2.2.1 = false) (h64 : (srO o ts).2.2.1 ≠ 64) : ((srO o ts).2.2.1 = 0 ∧ (srO o ts).2.2.2.1 = []) ∨ ((srO o ts).2.2.1 ≠ 61 ∧ 4 < (srO o ts).2.2.1) := by
  unfold srO at hz hJ h64 ⊢
  by_cases c9 : o.1 = 9
  · rw [if_pos c9] at hz hJ h64 ⊢
    by_cases cr : isReg ts = true
    · rw [if_pos cr]; exact noJ3 (by decide)
    · rw [if_neg cr] at hz hJ
      rw [mkLast [120] _ _ _ _ (by simp) (by decide) (by decide) hz] at hJ
      exact absurd hJ (by decide)
  rw [if_neg c9] at hz hJ h64 ⊢
  by_cases c10 : o.1 = 10
  · rw [if_pos c10]
    split
    · exact noJ3 (by decide)
    · exact noJ3 (by decide)
  rw [if_neg c10] at hz hJ h64 ⊢
  unfold oneX at hx
  simp only [Bool.or_eq_true, decide_eq_true_eq] at hx
  rcases hx with (e | e) | e
  · unfold lastJ at e
    simp only [decide_eq_true_eq] at e
    have h0 : o.2.1.getLastD 0 ≠ 0 ∧ ¬ (o.2.1.getLastD 0 = 44 ∨ o.2.1.getLastD 0 = 40 ∨ o.2.1.getLastD 0 = 41) ∧ isRM (o.2.1.getLastD 0) = false ∧ isJ (o.2.1.getLastD 0) = true := by
      rcases e with e | e | e <;> rw [e] <;> decide
    rw [mkLast o.2.1 _ _ _ _ (ends_m rfl h0.1) h0.2.1 h0.2.2.1 hz, h0.2.2.2] at hJ
    cases hJ
  · rw [mkLast o.2.1 _ _ _ _ (ends_m e (by decide)) (by rw [e]; decide) (by rw [e]; decide) hz] at h64
    exact absurd e h64
  · exact noJ3 e
theorem A_pre {o : OD} {ts : List AT} {σ : MS} {lev sec kd0 : Nat} (h17 : σ0.1 17 ≠ 0) (hp : Px σ0 cur start lev sec kd0) (hx : oneX o.2.1 = true) (hro : roleOk o.1 = true) (h5 : o.1 = 5 → o.2.2 = 0 ∨ o.2.2 = 1) (hz : (stm (η0 X Λ σ0 start) (loR X Λ) nk o ts).1 = 0) (hlv : isJ (srO o ts).2.2.1 = true → lev ≤ 2) (h : BOut X Λ σ0 ln cur start lev sec o ts σ) : ArP X Λ σ0 ln cur start lev o ts σ := by
  have etk : tkM X Λ σ0 = nk := by
    funext nm
    unfold tkM
    rw [if_neg h17]
    rfl
  have h0 := h
  unfold BOut at h
  by_cases c1 : o.1 = 1 ∨ o.1 = 2
  · rw [if_pos c1] at h
    refine Ar_of (its := []) (rest := ts) (Bs := []) (by unfold stm; rw [if_pos c1]) (fun i hi => by cases hi) (by unfold bsA; rw [if_pos c1]) h (fun i hi => by cases hi) rfl
  rw [if_neg c1] at h
  by_cases c3 : o.1 = 3
  · have es : stm (η0 X Λ σ0 start) (loR X Λ) nk o ts = ((eqT (η0 X Λ σ0 start) (loR X Λ) nk ts).1, [], (eqT (η0 X Λ σ0 start) (loR X Λ) nk ts).2.2.2) := by
      unfold stm; rw [if_neg c1, if_pos c3]
    rw [es] at hz
    have hz' : (eqT (η0 X Λ σ0 start) (loR X Λ) nk ts).1 = 0 := hz
    rw [if_pos c3, etk] at h
    unfold OutE at h
    rw [if_neg (fun z => z hz'), if_neg h17] at h
    refine Ar_of (its := []) (Bs := []) (by rw [es, hz']) (fun i hi => by cases hi) ?_ h (fun i hi => by cases hi) rfl
    unfold bsA
    rw [if_neg c1, if_neg (by rw [c3]; decide), if_neg (fun z => by rcases z.1 with e | e | e <;> rw [c3] at e <;> exact absurd e (by decide))]
  rw [if_neg c3] at h
  by_cases c4 : o.1 = 4
  · have es : stm (η0 X Λ σ0 start) (loR X Λ) nk o ts = ((nmT ts.length ts).1, (nmT ts.length ts).2.1.map (fun R => (61, 0, o.2.2.toNatClampNeg, R, [])), (nmT ts.length ts).2.2) := by
      unfold stm; rw [if_neg c1, if_neg c3, if_pos c4]
    rw [es] at hz
    have hz' : (nmT ts.length ts).1 = 0 := hz
    have eb : bsA (η0 X Λ σ0 start) (loR X Λ) σ0 cur lev o ts = σ0 := by
      unfold bsA
      rw [if_neg c1, if_neg (by rw [c4]; decide), if_neg (fun z => by rcases z.1 with e | e | e <;> rw [c4] at e <;> exact absurd e (by decide))]
    rw [if_pos c4] at h
    unfold OutN at h
    rw [if_neg (fun z => z hz')] at h
    have hj : ∀ i ∈ ((nmT ts.length ts).2.1.map (fun R => ((61 : Int32), (0 : Int32), o.2.2.toNatClampNeg, R, ([] : List Int32))) : List AI), isJ i.1 = false := by
      intro i hi
      obtain ⟨R, -, rfl⟩ := List.mem_map.mp hi
      exact rfl
    unfold ArP
    rw [es, eb]
    dsimp only
    rw [curL_id hj, nm_ck, nm_by]
    rcases h.cases with ⟨d1, d2, d3⟩ | ⟨d1, d2⟩
    · exact CK.y d1 d2 d3
    · exact CK.n d1 ⟨_, d2, fun _ => List.nil_append _⟩
  rw [if_neg c4] at h
  by_cases c5 : o.1 = 5
  · have es : stm (η0 X Λ σ0 start) (loR X Λ) nk o ts = ((stT ts.length ts).1, (stT ts.length ts).2.1.map (fun s => (4, 0, s.length + o.2.2.toNatClampNeg, [], s)), (stT ts.length ts).2.2) := by
      unfold stm; rw [if_neg c1, if_neg c3, if_neg c4, if_pos c5]
    rw [es] at hz
    have hz' : (stT ts.length ts).1 = 0 := hz
    rw [if_pos c5] at h
    unfold OutQ at h
    rw [if_neg (fun z => z hz')] at h
    refine Ar_of (by rw [es, hz']) (fun i hi => ?_) ?_ h (fun i hi => ?_) ?_
    · obtain ⟨R, -, rfl⟩ := List.mem_map.mp hi
      exact rfl
    · unfold bsA
      rw [if_neg c1, if_neg (by rw [c5]; decide), if_neg (fun z => by rcases z.1 with e | e | e <;> rw [c5] at e <;> exact absurd e (by decide))]
    · obtain ⟨R, -, rfl⟩ := List.mem_map.mp hi
      unfold ckI
      dsimp only
      rw [if_pos (by decide)]
    · rw [List.nil_append, st_by _ _ _ (h5 c5)]
  rw [if_neg c5] at h
  by_cases c6 : o.1 = 6
  · have es : stm (η0 X Λ σ0 start) (loR X Λ) nk o ts = ((f1T (η0 X Λ σ0 start) (loR X Λ) 0 32768 ts).1, [(2, 0, (f1T (η0 X Λ σ0 start) (loR X Λ) 0 32768 ts).2.1.toNatClampNeg, [], [])], (f1T (η0 X Λ σ0 start) (loR X Λ) 0 32768 ts).2.2) := by
      unfold stm; rw [if_neg c1, if_neg c3, if_neg c4, if_neg c5, if_pos c6]
    rw [es] at hz
    have hz' : (f1T (η0 X Λ σ0 start) (loR X Λ) 0 32768 ts).1 = 0 := hz
    rw [if_pos c6] at h
    unfold OutP at h
    rw [if_neg (fun z => z hz')] at h
    obtain ⟨k, k1, k2, k3⟩ := h
    refine Ar_of (by rw [es, hz']) (fun i hi => ?_) ?_ k3 (fun i hi => ?_) ?_
    · rw [List.mem_singleton.mp hi]; exact rfl
    · unfold bsA
      rw [if_neg c1, if_neg (by rw [c6]; decide), if_neg (fun z => by rcases z.1 with e | e | e <;> rw [c6] at e <;> exact absurd e (by decide))]
    · rw [List.mem_singleton.mp hi]
      unfold ckI
      dsimp only
      rw [if_pos (by decide)]
    · rw [byB_1]
      unfold byI
      dsimp only
      rw [if_neg (by decide), if_pos rfl, k2, nI_clamp (by omega)]
  rw [if_neg c6] at h
  by_cases c7 : o.1 = 7
  · have es : stm (η0 X Λ σ0 start) (loR X Λ) nk o ts = ((f1T (η0 X Λ σ0 start) (loR X Λ) 0 10 ts).1, [(3, (f1T (η0 X Λ σ0 start) (loR X Λ) 0 10 ts).2.1, 0, [], [])], (f1T (η0 X Λ σ0 start) (loR X Λ) 0 10 ts).2.2) := by
      unfold stm; rw [if_neg c1, if_neg c3, if_neg c4, if_neg c5, if_neg c6, if_pos c7]
    rw [es] at hz
    have hz' : (f1T (η0 X Λ σ0 start) (loR X Λ) 0 10 ts).1 = 0 := hz
    rw [if_pos c7] at h
    unfold OutG at h
    rw [if_neg (fun z => z hz')] at h
    refine Ar_of (by rw [es, hz']) (fun i hi => ?_) ?_ h (fun i hi => ?_) ?_
    · rw [List.mem_singleton.mp hi]; exact rfl
    · unfold bsA
      rw [if_neg c1, if_pos c7]
    · rw [List.mem_singleton.mp hi]
      unfold ckI
      dsimp only
      rw [if_pos (by decide)]
    · rw [byB_1]
      unfold byI
      dsimp only
      rw [if_neg (by decide), if_neg (by decide), if_pos (by decide)]
  rw [if_neg c7] at h
  by_cases c8 : o.1 = 8
  · have es : stm (η0 X Λ σ0 start) (loR X Λ) nk o ts = ((ldT (η0 X Λ σ0 start) (loR X Λ) ts).1, (liI (ldT (η0 X Λ σ0 start) (loR X Λ) ts).2.1 (ldT (η0 X Λ σ0 start) (loR X Λ) ts).2.2.1).map (fun x => (0, x.1, x.2, [], [])), (ldT (η0 X Λ σ0 start) (loR X Λ) ts).2.2.2) := by
      unfold stm; rw [if_neg c1, if_neg c3, if_neg c4, if_neg c5, if_neg c6, if_neg c7, if_pos c8]
    rw [es] at hz
    have hz' : (ldT (η0 X Λ σ0 start) (loR X Λ) ts).1 = 0 := hz
    rw [if_pos c8] at h
    unfold OutL at h
    rw [if_neg (fun z => z hz')] at h
    refine Ar_of (by rw [es, hz']) (fun i hi => ?_) ?_ h (fun i hi => ?_) ?_
    · obtain ⟨R, -, rfl⟩ := List.mem_map.mp hi
      exact rfl
    · unfold bsA
      rw [if_neg c1, if_neg (by rw [c8]; decide), if_neg (fun z => by rcases z.1 with e | e | e <;> rw [c8] at e <;> exact absurd e (by decide))]
    · obtain ⟨R, -, rfl⟩ := List.mem_map.mp hi
      unfold ckI
      dsimp only
      rw [if_pos (by decide)]
    · rw [List.nil_append, li_by]
  have hr : o.1 = 0 ∨ o.1 = 9 ∨ o.1 = 10 := by
    unfold roleOk at hro
    simp only [List.mem_cons, List.not_mem_nil, or_false, decide_eq_true_eq] at hro
    rcases hro with e | e | e | e | e | e | e | e | e | e | e
    · exact Or.inl e
    · exact absurd (Or.inl e) c1
    · exact absurd (Or.inr e) c1
    · exact absurd e c3
    · exact absurd e c4
    · exact absurd e c5
    · exact absurd e c6
    · exact absurd e c7
    · exact absurd e c8
    · exact Or.inr (Or.inl e)
    · exact Or.inr (Or.inr e)
  have hX := BOut_X hx hr h0
  have es : stm (η0 X Λ σ0 start) (loR X Λ) nk o ts = ((srO o ts).1, sI (srO o ts), (srO o ts).2.2.2.2) := by
    unfold stm; rw [if_neg c1, if_neg c3, if_neg c4, if_neg c5, if_neg c6, if_neg c7, if_neg c8]
  have eb : bsA (η0 X Λ σ0 start) (loR X Λ) σ0 cur lev o ts = if isJ (srO o ts).2.2.1 = true then sF σ0 23 (b2 (jgR (η0 X Λ σ0 start) σ0 (srO o ts).2.2.1 lev (srO o ts).2.2.2.1)) else σ0 := by
    unfold bsA
    rw [if_neg c1, if_neg c7]
    by_cases cj : isJ (srO o ts).2.2.1 = true
    · rw [if_pos ⟨hr, cj⟩, if_pos cj]
    · rw [if_neg (fun z => cj z.2), if_neg cj]
  rw [es] at hz
  have hz' : (srO o ts).1 = 0 := hz
  unfold ArP
  rw [es, eb]
  dsimp only
  have hmk := srO_mk (o := o) (ts := ts) hx hz'
  generalize srO o ts = s at hX hz' hlv hmk
  unfold OutX at hX
  rw [if_neg (fun z => z hz')] at hX
  by_cases cJ : isJ s.2.2.1 = true
  · rw [if_pos cJ] at hX ⊢
    unfold OutK OutJ at hX
    rw [if_neg (fun z => z hz')] at hX
    have eL : Lv σ0 lev s.2.2.1 s.2.1 = lev := by unfold Lv; rw [if_neg h17]
    have ep : plv σ0 cur start sec s.2.2.1 s.2.1 = σ0.2 2 cur := by unfold plv; rw [if_neg h17]
    rw [eL, ep] at hX
    have ei : (sI s).map (curL lev) = [(s.2.2.1, s.2.1, 2 * 2 ^ lev, s.2.2.2.1, [])] := by
      unfold sI
      rw [List.map_cons, List.map_nil]
      unfold curL
      dsimp only
      rw [if_pos cJ]
    have n5 : ¬ (s.2.2.1 = 0 ∨ s.2.2.1 = 1 ∨ s.2.2.1 = 2 ∨ s.2.2.1 = 3 ∨ s.2.2.1 = 4) ∧ ¬ (s.2.2.1 = 61 ∨ s.2.2.1 = 64) := by
      unfold isJ at cJ
      simp only [decide_eq_true_eq] at cJ
      rcases cJ with e | e | e <;> rw [e] <;> decide
    have n0 := n5
    simp only [not_or] at n0
    have eck : ckI (η0 X Λ σ0 start) (σ0.1 19) (s.2.2.1, s.2.1, 2 * 2 ^ lev, s.2.2.2.1, []) = ckJ (η0 X Λ σ0 start) (σ0.1 19) s.2.2.1 lev s.2.2.2.1 := by
      unfold ckI
      dsimp only
      rw [if_neg n5.1, if_neg n5.2, if_pos cJ, Lof_2 (hlv cJ)]
    rw [ei, ckB_1, byB_1, eck]
    rcases hX.cases with ⟨d1, d2, d3⟩ | ⟨d1, d2⟩
    · exact CK.y d1 d2 d3
    · refine CK.n d1 ?_
      obtain ⟨Bs, b1, b2', b3⟩ := d2
      rw [List.nil_append] at b1
      refine ⟨Bs, ?_, fun _ => ?_⟩
      · unfold jm at b1
        rw [pm_self] at b1
        exact b1
      · rw [b3]
        unfold byI
        dsimp only
        rw [if_neg n0.1.1, if_neg n0.1.2.2.1, if_neg (fun z => by rcases z with z | z; exact n0.1.2.1 z; exact n0.1.2.2.2.1 z), if_neg n0.1.2.2.2.2, if_neg n0.2.1, if_neg n0.2.2, if_pos cJ, Lof_2 (hlv cJ)]
  · rw [if_neg cJ] at hX ⊢
    have ei : (sI s).map (curL lev) = sI s := curL_id (fun i hi => by
      unfold sI at hi
      rw [List.mem_singleton.mp hi]
      simpa using cJ)
    rw [ei]
    unfold sI
    rw [ckB_1, byB_1]
    by_cases c64 : s.2.2.1 = 64
    · rw [if_pos c64] at hX
      unfold OutA at hX
      rw [if_neg (fun z => z hz')] at hX
      have eck : ckI (η0 X Λ σ0 start) (σ0.1 19) (s.2.2.1, s.2.1, (len0 s.2.2.1 s.2.1).toNatClampNeg, s.2.2.2.1, []) = mdF (evV (η0 X Λ σ0 start) s.2.2.2.1).2.1 (evV (η0 X Λ σ0 start) s.2.2.2.1).2.2 := by
        unfold ckI
        dsimp only
        rw [c64, if_neg (by decide), if_pos (by decide)]
      rw [eck]
      rcases hX.cases with ⟨d1, d2, d3⟩ | ⟨d1, d2⟩
      · exact CK.y d1 d2 d3
      · refine CK.n d1 ⟨_, d2, fun _ => ?_⟩
        rw [List.nil_append]
        unfold byI
        dsimp only
        rw [c64, if_neg (by decide), if_neg (by decide), if_neg (by decide), if_neg (by decide), if_neg (by decide), if_pos rfl]
    · rw [if_neg c64] at hX
      unfold OutS at hX
      rw [if_neg (fun z => z hz')] at hX
      have cJ' : isJ s.2.2.1 = false := by simpa using cJ
      have fin : ckI (η0 X Λ σ0 start) (σ0.1 19) (s.2.2.1, s.2.1, (len0 s.2.2.1 s.2.1).toNatClampNeg, s.2.2.2.1, []) = ckS (η0 X Λ σ0 start) (σ0.1 19) s.2.2.1 s.2.2.2.1 ∧ byI (η0 X Λ σ0 start) (σ0.1 19) (s.2.2.1, s.2.1, (len0 s.2.2.1 s.2.1).toNatClampNeg, s.2.2.2.1, []) = wB (s.2.1 ||| scat s.2.2.1 (numI s.2.2.1 (evV (η0 X Λ σ0 start) s.2.2.2.1).1 (σ0.1 19))) (len0 s.2.2.1 s.2.1).toNatClampNeg := by
        rcases hmk cJ' c64 with ⟨m1, m2⟩ | ⟨m1, m2⟩
        · rw [m1, m2]
          constructor
          · unfold ckI
            dsimp only
            rw [if_pos (Or.inl rfl), ckS_0]
          · unfold byI
            dsimp only
            rw [if_pos rfl, sc_00]
        · have n5 : ¬ (s.2.2.1 = 0 ∨ s.2.2.1 = 1 ∨ s.2.2.1 = 2 ∨ s.2.2.1 = 3 ∨ s.2.2.1 = 4) := by
            intro z
            rcases z with z | z | z | z | z <;> rw [z] at m2 <;> exact absurd m2 (by decide)
          have n0 := n5
          simp only [not_or] at n0
          constructor
          · unfold ckI
            dsimp only
            rw [if_neg n5, if_neg (fun z => by rcases z with z | z; exact m1 z; exact c64 z), if_neg cJ]
          · unfold byI
            dsimp only
            rw [if_neg n0.1, if_neg n0.2.2.1, if_neg (fun z => by rcases z with z | z; exact n0.2.1 z; exact n0.2.2.2.1 z), if_neg n0.2.2.2.2, if_neg m1, if_neg c64, if_neg cJ]
      rw [fin.1, fin.2]
      rcases hX.cases with ⟨d1, d2, d3⟩ | ⟨d1, d2⟩
      · exact CK.y d1 d2 d3
      · refine CK.n d1 ?_
        obtain ⟨Bs, b1, b2', b3, b4⟩ := d2
        rw [List.nil_append] at b1
        refine ⟨Bs, b1, fun z => ?_⟩
        rw [← b2', nI_clamp (by omega)]
        exact b4 z
end
