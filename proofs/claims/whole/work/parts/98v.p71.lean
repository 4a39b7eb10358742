/-! ===== the class's program beside the events ===== -/
def nit (e : Ev) : Nat := if e.1 = 2 then 0 else if e.1 = 5 then e.2.2.2.2.2.length else 1
def isNr (e : Ev) : Bool := decide (e.1 = 3 ∨ e.1 = 4)
def dg (X : List Int32) (e : Ev) : Nat := (tw X e.2.1 - 48).toNatClampNeg
def updN (f : Nat → Nat) (k v : Nat) : Nat → Nat := fun j => if j = k then v else f j
def itF (X : List Int32) (s : Nat × (Nat → Nat)) (e : Ev) : Nat × (Nat → Nat) := (s.1 + nit e, if isNr e = true then updN s.2 (dg X e) s.1 else s.2)
def itA (X : List Int32) (E : List Ev) : Nat × (Nat → Nat) := E.foldl (itF X) (10, fun d => d)
def cI (E : List Ev) : Nat := 10 + (E.map nit).sum
def nrE (X : List Int32) (E : List Ev) : Nat → Nat := (itA X E).2
theorem itA_1 (X : List Int32) (E : List Ev) : (itA X E).1 = cI E := by
  have : ∀ (E : List Ev) (s : Nat × (Nat → Nat)), (E.foldl (itF X) s).1 = s.1 + (E.map nit).sum := by
    intro E
    induction E with
    | nil => intro s; rfl
    | cons e r ih =>
      intro s
      rw [List.foldl_cons, ih, List.map_cons, List.sum_cons]
      show s.1 + nit e + _ = _
      omega
  exact this E _
theorem cI_app (E F : List Ev) : cI (E ++ F) = cI E + (F.map nit).sum := by
  unfold cI
  rw [List.map_append, List.sum_append]
  omega
theorem cI_snoc (E : List Ev) (e : Ev) : cI (E ++ [e]) = cI E + nit e := by
  rw [cI_app]
  simp
theorem nrE_snoc (X : List Int32) (E : List Ev) (e : Ev) : nrE X (E ++ [e]) = if isNr e = true then updN (nrE X E) (dg X e) (cI E) else nrE X E := by
  unfold nrE itA
  rw [List.foldl_append]
  show (if isNr e = true then updN (itA X E).2 (dg X e) (itA X E).1 else (itA X E).2) = _
  rw [itA_1]
  rfl
theorem cI_split {E E1 E2 : List Ev} {e : Ev} (h : E = E1 ++ e :: E2) : cI E1 + nit e ≤ cI E := by
  rw [h, show E1 ++ e :: E2 = (E1 ++ [e]) ++ E2 by simp, cI_app, cI_snoc]
  omega
theorem cI_ge (E : List Ev) : 10 ≤ cI E := by unfold cI; omega
/-- the next near label of a digit behind item k -/
def nxA (X : List Int32) (d k : Nat) : Nat → List Ev → Option Nat
  | _, [] => none
  | i, e :: r => if isNr e = true ∧ dg X e = d ∧ k < i then some i else nxA X d k (i + nit e) r
def nxE (X : List Int32) (E : List Ev) (d k : Nat) : Option Nat := nxA X d k 10 E
theorem nxA_snoc (X : List Int32) (d k : Nat) : ∀ (E : List Ev) (e : Ev) (i : Nat), nxA X d k i (E ++ [e]) = (nxA X d k i E).or (if isNr e = true ∧ dg X e = d ∧ k < i + (E.map nit).sum then some (i + (E.map nit).sum) else none)
  | [], e, i => by
    show (if _ then some i else none) = _
    simp only [List.map_nil, List.sum_nil, Nat.add_zero]
    rfl
  | f :: E, e, i => by
    show (if _ then some i else nxA X d k (i + nit f) (E ++ [e])) = Option.or (if _ then some i else nxA X d k (i + nit f) E) _
    by_cases h : isNr f = true ∧ dg X f = d ∧ k < i
    · rw [if_pos h, if_pos h]; rfl
    · rw [if_neg h, if_neg h, nxA_snoc X d k E e (i + nit f), List.map_cons, List.sum_cons, show i + nit f + (E.map nit).sum = i + (nit f + (E.map nit).sum) by omega]
theorem nxE_snoc (X : List Int32) (E : List Ev) (e : Ev) (d k : Nat) : nxE X (E ++ [e]) d k = (nxE X E d k).or (if isNr e = true ∧ dg X e = d ∧ k < cI E then some (cI E) else none) := nxA_snoc X d k E e 10
theorem nxE_st (X : List Int32) (E : List Ev) (e : Ev) (d k : Nat) (h : isNr e = false) : nxE X (E ++ [e]) d k = nxE X E d k := by
  rw [nxE_snoc, if_neg (by rw [h]; simp)]
  cases nxE X E d k <;> rfl
/-- the latest near label has none behind it; the others of its digit have -/
theorem nr_last (X : List Int32) : ∀ (m : Nat) (E : List Ev), E.length = m → ∀ d, nrE X E d < cI E ∨ nrE X E d = d := by
  intro m
  induction m with
  | zero => intro E h d; rw [List.length_eq_zero_iff.mp h]; exact Or.inr rfl
  | succ m ih =>
    intro E h d
    rcases List.eq_nil_or_concat E with rfl | ⟨F, e, rfl⟩
    · simp at h
    · rw [List.concat_eq_append] at h ⊢
      rw [nrE_snoc, cI_snoc]
      have := ih F (by simp at h; exact h) d
      by_cases hn : isNr e = true
      · rw [if_pos hn]
        unfold updN
        split
        · left
          have : nit e = 1 := by
            unfold nit isNr at *
            simp only [decide_eq_true_eq] at hn
            rw [if_neg (by omega), if_neg (by omega)]
          omega
        · rcases this with z | z
          · left; omega
          · right; exact z
      · rw [if_neg hn]
        rcases this with z | z
        · left; omega
        · right; exact z
theorem nx_last (X : List Int32) : ∀ (m : Nat) (E : List Ev), E.length = m → ∀ d, nxE X E d (nrE X E d) = none := by
  intro m
  induction m with
  | zero => intro E h d; rw [List.length_eq_zero_iff.mp h]; rfl
  | succ m ih =>
    intro E h d
    rcases List.eq_nil_or_concat E with rfl | ⟨F, e, rfl⟩
    · rfl
    · rw [List.concat_eq_append] at h ⊢
      have hF : F.length = m := by simp at h; exact h
      rw [nrE_snoc, nxE_snoc]
      have hbnd : ∀ k, cI F ≤ k → nxE X F d k = none := by
        intro k hk
        have : ∀ (G : List Ev) (i : Nat), i + (G.map nit).sum ≤ k → nxA X d k i G = none := by
          intro G
          induction G with
          | nil => intro i _; rfl
          | cons g G ihG =>
            intro i hi
            rw [List.map_cons, List.sum_cons] at hi
            show (if _ then some i else _) = none
            rw [if_neg (fun z => by omega)]
            exact ihG _ (by omega)
        exact this F 10 hk
      by_cases hn : isNr e = true
      · rw [if_pos hn]
        unfold updN
        by_cases hd : d = dg X e
        · rw [if_pos hd, hbnd _ (Nat.le_refl _), if_neg (fun z => by omega)]
          rfl
        · rw [if_neg hd, ih F hF d, if_neg (fun z => hd z.2.1.symm)]
          rfl
      · rw [if_neg hn, ih F hF d, if_neg (fun z => hn z.1)]
        rfl
/-- is k an item of digit d: one in front of the text, or a near label's? -/
def isDg_k (X : List Int32) (E : List Ev) (d k : Nat) : Prop := (k = d ∧ d < 10) ∨ ∃ E1 e E2, E = E1 ++ e :: E2 ∧ isNr e = true ∧ dg X e = d ∧ k = cI E1
theorem isDg_lt {X : List Int32} {E : List Ev} {d k : Nat} (h : isDg_k X E d k) : k < cI E := by
  rcases h with ⟨h1, h2⟩ | ⟨E1, e, E2, h1, h2, h3, h4⟩
  · have := cI_ge E; omega
  · have := cI_split h1
    have hn : nit e = 1 := by
      unfold nit isNr at *
      simp only [decide_eq_true_eq] at h2
      rw [if_neg (by omega), if_neg (by omega)]
    omega
theorem nr_isDg (X : List Int32) : ∀ (m : Nat) (E : List Ev), E.length = m → ∀ d, d < 10 → isDg_k X E d (nrE X E d) := by
  intro m
  induction m with
  | zero => intro E h d hd; rw [List.length_eq_zero_iff.mp h]; exact Or.inl ⟨rfl, hd⟩
  | succ m ih =>
    intro E h d hd
    rcases List.eq_nil_or_concat E with rfl | ⟨F, e, rfl⟩
    · exact Or.inl ⟨rfl, hd⟩
    · rw [List.concat_eq_append] at h ⊢
      have hF : F.length = m := by simp at h; exact h
      have old : isDg_k X (F ++ [e]) d (nrE X F d) := by
        rcases ih F hF d hd with z | ⟨E1, f, E2, h1, h2, h3, h4⟩
        · exact Or.inl z
        · exact Or.inr ⟨E1, f, E2 ++ [e], by rw [h1]; simp, h2, h3, h4⟩
      rw [nrE_snoc]
      by_cases hn : isNr e = true
      · rw [if_pos hn]
        unfold updN
        by_cases hd2 : d = dg X e
        · rw [if_pos hd2]
          exact Or.inr ⟨F, e, [], by simp, hn, hd2.symm, rfl⟩
        · rw [if_neg hd2]; exact old
      · rw [if_neg hn]; exact old
theorem nx_other (X : List Int32) : ∀ (m : Nat) (E : List Ev), E.length = m → ∀ d k, isDg_k X E d k → k ≠ nrE X E d → ∃ j, nxE X E d k = some j := by
  intro m
  induction m with
  | zero =>
    intro E h d k hk hne
    rw [List.length_eq_zero_iff.mp h] at hk hne
    rcases hk with ⟨h1, h2⟩ | ⟨E1, e, E2, h1, -⟩
    · exact absurd h1 hne
    · have := congrArg List.length h1; simp at this
  | succ m ih =>
    intro E h d k hk hne
    rcases List.eq_nil_or_concat E with rfl | ⟨F, e, rfl⟩
    · simp at h
    · rw [List.concat_eq_append] at h hk hne ⊢
      have hF : F.length = m := by simp at h; exact h
      rw [nxE_snoc]
      rw [nrE_snoc] at hne
      have hold : isDg_k X F d k ∨ (isNr e = true ∧ dg X e = d ∧ k = cI F) := by
        rcases hk with z | ⟨E1, f, E2, h1, h2, h3, h4⟩
        · exact Or.inl (Or.inl z)
        · rcases split_snoc h1 with ⟨rfl, rfl, rfl⟩ | ⟨E3, h5⟩
          · exact Or.inr ⟨h2, h3, h4⟩
          · exact Or.inl (Or.inr ⟨E1, f, E3, h5, h2, h3, h4⟩)
      rcases hold with hold | ⟨z1, z2, z3⟩
      · by_cases hn : isNr e = true ∧ dg X e = d
        · by_cases hnx : nxE X F d k = none
          · rw [hnx, if_pos ⟨hn.1, hn.2, isDg_lt hold⟩]
            exact ⟨_, rfl⟩
          · cases hj : nxE X F d k with
            | none => exact absurd hj hnx
            | some j => exact ⟨j, rfl⟩
        · have hne' : k ≠ nrE X F d := by
            by_cases hn1 : isNr e = true
            · rw [if_pos hn1] at hne
              unfold updN at hne
              rw [if_neg (fun z => hn ⟨hn1, z.symm⟩)] at hne
              exact hne
            · rw [if_neg hn1] at hne; exact hne
          obtain ⟨j, hj⟩ := ih F hF d k hold hne'
          rw [hj]
          exact ⟨j, rfl⟩
      · exfalso
        rw [if_pos z1] at hne
        unfold updN at hne
        rw [if_pos z2.symm] at hne
        exact hne z3
/-- steps of an item within the rows -/
def SegR (ns : List (List Int32)) (nr : Nat → Nat) (K V : List Int32) (f t : Int32) (R : List XSt) : Prop := ∃ A KK B A' VV B', K = A ++ KK ++ B ∧ V = A' ++ VV ++ B' ∧ A.length = A'.length ∧ f = nI A.length ∧ t = nI (A.length + KK.length) ∧ StpL ns nr KK VV R
theorem SegR.more {ns : List (List Int32)} {nr : Nat → Nat} {K V : List Int32} {f t : Int32} {R : List XSt} (h : SegR ns nr K V f t R) (K2 V2 : List Int32) : SegR ns nr (K ++ K2) (V ++ V2) f t R := by
  obtain ⟨A, KK, B, A', VV, B', h1, h2, h3⟩ := h
  exact ⟨A, KK, B ++ K2, A', VV, B' ++ V2, by rw [h1]; simp, by rw [h2]; simp, h3⟩
/-- an item of a statement in the class's list -/
def ItX (ns : List (List Int32)) (nr : Nat → Nat) (Y K V : List Int32) (sI : CS) (k ln sec hd : Nat) (it : AI) : Prop :=
  sI.2.1 (k + 1) 0 = nI ln ∧ sI.2.1 (k + 1) 1 = b2 (decide (sec = 1)) ∧ sI.2.1 (k + 1) 2 = it.1 ∧ (it.1 ≠ 3 → sI.2.1 (k + 1) 4 = nI it.2.2.1) ∧ sI.2.1 (k + 1) 6 = nI hd ∧ (it.1 = 4 → ∃ Y1 Y2, Y = Y1 ++ it.2.2.2.2 ++ [0] ++ Y2 ∧ sI.2.1 (k + 1) 3 = nI Y1.length) ∧ (it.1 ≠ 4 → sI.2.1 (k + 1) 3 = it.2.1) ∧ SegR ns nr K V (sI.2.1 (k + 1) 7) (sI.2.1 (k + 1) 8) it.2.2.2.1
theorem ItX.more {ns : List (List Int32)} {nr : Nat → Nat} {Y K V : List Int32} {sI sI' : CS} {k ln sec hd : Nat} {it : AI} (h : ItX ns nr Y K V sI k ln sec hd it) (hf : sI'.2.1 (k + 1) = sI.2.1 (k + 1)) (K2 V2 : List Int32) : ItX ns nr Y (K ++ K2) (V ++ V2) sI' k ln sec hd it := by
  obtain ⟨h1, h2, h3, h4, h5, h6, h7, h8⟩ := h
  unfold ItX
  rw [hf]
  exact ⟨h1, h2, h3, h4, h5, h6, h7, h8.more K2 V2⟩
/-- a place: a label's item -/
def PlI (sI : CS) (k sec : Nat) (w : Int32) : Prop := sI.2.1 (k + 1) 1 = b2 (decide (sec = 1)) ∧ sI.2.1 (k + 1) 2 = 1 ∧ sI.2.1 (k + 1) 4 = 0 ∧ sI.2.1 (k + 1) 3 = w
def PrI (X : List Int32) (ns : List (List Int32)) (Y K V : List Int32) (sI : CS) (E : List Ev) : Prop :=
  (∀ d, d < 10 → PlI sI d 0 (oI (nxE X E d d))) ∧ ∀ E1 e E2, E = E1 ++ e :: E2 →
    (e.1 = 5 → ∀ j it, e.2.2.2.2.2[j]? = some it → ItX ns (nrE X E1) Y K V sI (cI E1 + j) e.2.2.1 e.2.2.2.1 (cI E1) it) ∧
    (e.1 = 0 ∨ e.1 = 1 → ∃ i, i < ns.length ∧ ns.getD i [] = nmAt X e.2.1 ∧ PlI sI (cI E1) e.2.2.2.1 (nI i)) ∧
    (e.1 = 3 ∨ e.1 = 4 → PlI sI (cI E1) e.2.2.2.1 (oI (nxE X E (dg X e) (cI E1))))
/-- what names mean -/
def NmE (X : List Int32) (ns : List (List Int32)) (so va : List Int32) (E : List Ev) : Prop := ∀ i, i < ns.length →
  (∃ E1 e E2, E = E1 ++ e :: E2 ∧ e.1 < 3 ∧ nmAt X e.2.1 = ns.getD i [] ∧ (e.1 = 2 → so.getD i 0 = 2 ∧ va.getD i 0 = e.2.2.2.2.1) ∧ (e.1 ≠ 2 → so.getD i 0 = 1 ∧ va.getD i 0 = nI (cI E1))) ∨ ((∀ e ∈ E, e.1 < 3 → nmAt X e.2.1 ≠ ns.getD i []) ∧ so.getD i 0 = 0)
def lbI : Nat → List Ev → List Int32
  | _, [] => []
  | i, e :: r => (if e.1 < 2 then [nI i] else []) ++ lbI (i + nit e) r
theorem lbI_snoc : ∀ (E : List Ev) (e : Ev) (i : Nat), lbI i (E ++ [e]) = lbI i E ++ (if e.1 < 2 then [nI (i + (E.map nit).sum)] else [])
  | [], e, i => by
    show _ ++ [] = [] ++ _
    rw [List.append_nil, List.nil_append]
    rfl
  | f :: E, e, i => by
    show _ ++ lbI (i + nit f) (E ++ [e]) = (_ ++ lbI (i + nit f) E) ++ _
    rw [lbI_snoc E e (i + nit f), List.append_assoc, List.map_cons, List.sum_cons, show i + nit f + (E.map nit).sum = i + (nit f + (E.map nit).sum) by omega]
theorem fnd_same (X nm : List Int32) : ∀ (E : List Ev) (s : Sz) (i : Nat), fnd X nm (LbE E) i = fnd X nm (lbS s E) i
  | [], s, i => rfl
  | e :: E, s, i => by
    rw [LbE_cons]
    show _ = fnd X nm (_ ++ lbS (stepE s e) E) i
    by_cases hk : e.1 < 5
    · rw [if_pos hk, if_pos hk]
      show (if e.1 < 3 ∧ nmAt X e.2.1 = nm then some i else fnd X nm (LbE E) (i + 1)) = (if e.1 < 3 ∧ nmAt X e.2.1 = nm then some i else fnd X nm (lbS (stepE s e) E) (i + 1))
      rw [fnd_same X nm E (stepE s e) (i + 1)]
    · rw [if_neg hk, if_neg hk]
      exact fnd_same X nm E (stepE s e) i
/-- where a name is found -/
theorem fnd_ev (X nm : List Int32) : ∀ (E : List Ev) (s : Sz) (i : Nat), (fnd X nm (lbS s E) i = none ∧ ∀ e ∈ E, e.1 < 3 → nmAt X e.2.1 ≠ nm) ∨ (∃ E1 e E2, E = E1 ++ e :: E2 ∧ e.1 < 3 ∧ nmAt X e.2.1 = nm ∧ fnd X nm (lbS s E) i = some (i + (LbE E1).length) ∧ (lbS s E).getD (LbE E1).length lb0 = (e.2.1, e.1, if e.1 = 2 then e.2.2.2.2.1 else nI (offS (lay s E1) e.2.2.2.1)))
  | [], s, i => Or.inl ⟨rfl, fun e he => by cases he⟩
  | f :: E, s, i => by
    have hcons : lbS s (f :: E) = (if f.1 < 5 then [(f.2.1, f.1, if f.1 = 2 then f.2.2.2.2.1 else nI (offS s f.2.2.2.1))] else []) ++ lbS (stepE s f) E := rfl
    by_cases hk : f.1 < 5
    · rw [if_pos hk] at hcons
      have hf : fnd X nm (lbS s (f :: E)) i = if f.1 < 3 ∧ nmAt X f.2.1 = nm then some i else fnd X nm (lbS (stepE s f) E) (i + 1) := by rw [hcons]; rfl
      rw [hf]
      by_cases hc : f.1 < 3 ∧ nmAt X f.2.1 = nm
      · right
        refine ⟨[], f, E, rfl, hc.1, hc.2, by rw [if_pos hc]; rfl, ?_⟩
        rw [hcons]
        rfl
      · rw [if_neg hc]
        rcases fnd_ev X nm E (stepE s f) (i + 1) with ⟨h1, h2⟩ | ⟨E1, e, E2, h1, h2, h3, h4, h5⟩
        · left
          refine ⟨h1, fun e he => ?_⟩
          rcases List.mem_cons.mp he with rfl | he
          · exact fun h3 h4 => hc ⟨h3, h4⟩
          · exact h2 e he
        · right
          refine ⟨f :: E1, e, E2, by rw [h1]; rfl, h2, h3, ?_, ?_⟩
          · rw [h4, LbE_cons, if_pos hk, List.length_append]
            congr 1
            simp only [List.length_cons, List.length_nil]
            omega
          · rw [hcons, LbE_cons, if_pos hk, List.length_append]
            show (_ :: lbS (stepE s f) E).getD (1 + _) lb0 = _
            rw [Nat.add_comm 1]
            exact h5
    · rw [if_neg hk, List.nil_append] at hcons
      rw [hcons]
      rcases fnd_ev X nm E (stepE s f) i with ⟨h1, h2⟩ | ⟨E1, e, E2, h1, h2, h3, h4, h5⟩
      · left
        refine ⟨h1, fun e he => ?_⟩
        rcases List.mem_cons.mp he with rfl | he
        · intro z; omega
        · exact h2 e he
      · right
        refine ⟨f :: E1, e, E2, by rw [h1]; rfl, h2, h3, ?_, ?_⟩
        · rw [h4, LbE_cons, if_neg hk]; rfl
        · rw [LbE_cons, if_neg hk]; exact h5
/-- a name has one meaning -/
theorem lab_uniq {X : List Int32} {E : List Ev} (hW : WfE X E) {E1 E2 E1' E2' : List Ev} {e e' : Ev} (h1 : E = E1 ++ e :: E2) (h2 : E = E1' ++ e' :: E2') (k1 : e.1 < 3) (k2 : e'.1 < 3) (hn : nmAt X e.2.1 = nmAt X e'.2.1) : E1 = E1' ∧ e = e' := by
  have key : ∀ (A B : List Ev) (a b : Ev) (A2 B2 : List Ev), E = A ++ a :: A2 → E = B ++ b :: B2 → a.1 < 3 → b.1 < 3 → nmAt X a.2.1 = nmAt X b.2.1 → ¬ A.length < B.length := by
    intro A B a b A2 B2 e1 e2 ka kb hab hlt
    have hmem : a ∈ B := by
      rw [e1] at e2
      have : (A ++ a :: A2)[A.length]? = some a := by simp
      rw [e2, List.getElem?_append_left hlt] at this
      exact List.mem_of_getElem? this
    have hw := (hW B b B2 e2).2.2.2.2.2.2.1 kb
    unfold tkA at hw
    rw [Bool.or_eq_false_iff] at hw
    rcases fnd_ev X (nmAt X b.2.1) B (0, 0) 0 with ⟨-, g⟩ | ⟨F1, f, F2, -, -, -, g, -⟩
    · exact g a hmem ka hab
    · rw [fnd_same X _ B (0, 0) 0, g] at hw
      exact absurd hw.2 (by simp)
  have n1 := key E1 E1' e e' E2 E2' h1 h2 k1 k2 hn
  have n2 := key E1' E1 e' e E2' E2 h2 h1 k2 k1 hn.symm
  have hl : E1.length = E1'.length := by omega
  rw [h1] at h2
  have := List.append_inj h2 hl
  refine ⟨this.1, ?_⟩
  have h3 := this.2
  injection h3
theorem regR_m1 {nm : List Int32} (h : ¬ 0 ≤ regR nm) : regR nm = -1 := by
  unfold regR at h ⊢
  by_cases c1 : pk nm = 4006234
  · rw [if_pos c1] at h; exact absurd (by decide) h
  rw [if_neg c1] at h ⊢
  by_cases c2 : pk nm = 82
  · rw [if_pos c2] at h; exact absurd (by decide) h
  rw [if_neg c2] at h ⊢
  by_cases c3 : pk nm = 1043
  · rw [if_pos c3] at h; exact absurd (by decide) h
  rw [if_neg c3] at h ⊢
  by_cases c4 : pk nm = 1031
  · rw [if_pos c4] at h; exact absurd (by decide) h
  rw [if_neg c4] at h ⊢
  by_cases c5 : pk nm = 1044
  · rw [if_pos c5] at h; exact absurd (by decide) h
  rw [if_neg c5] at h ⊢
  by_cases c6 : pk nm = 1030
  · rw [if_pos c6] at h; exact absurd (by decide) h
  rw [if_neg c6] at h ⊢
  by_cases c7 : nm.length = 2 ∨ nm.length = 3
  · rw [if_pos c7] at h ⊢
    by_cases c8 : isDg (nm.getD 1 0) = true
    · rw [if_pos c8] at h ⊢
      have hn : ∃ k, k < 100 ∧ (if nm.length = 3 then (if nm.getD 1 0 - 48 = 0 then 99 else if isDg (nm.getD 2 0) = true then (10 * (nm.getD 1 0 - 48) + nm.getD 2 0) - 48 else 99) else nm.getD 1 0 - 48) = nI k := by
        obtain ⟨k1, a1, a2, a3⟩ := dg_n c8
        have e1 : nm.getD 1 0 - 48 = nI (k1 - 48) := by rw [a3, show (48 : Int32) = nI 48 from rfl, pk_sub a1]
        rw [e1]
        by_cases hl : nm.length = 3
        · rw [if_pos hl]
          split
          · exact ⟨99, by omega, rfl⟩
          · split
            · rename_i hd2
              obtain ⟨k2, b1, b2', b3⟩ := dg_n hd2
              refine ⟨10 * (k1 - 48) + (k2 - 48), by omega, ?_⟩
              rw [b3, show (10 : Int32) = nI 10 from rfl, pk_mul, nI_add, show (48 : Int32) = nI 48 from rfl, pk_sub (by omega)]
              congr 1
              omega
            · exact ⟨99, by omega, rfl⟩
        · rw [if_neg hl]; exact ⟨k1 - 48, by omega, rfl⟩
      obtain ⟨k, hk, ek⟩ := hn
      rw [ek] at h ⊢
      have : ∀ k, k < 100 → ∀ c ∈ ([120, 97, 116, 115] : List Int32), 0 ≤ reg3 c (nI k) ∨ reg3 c (nI k) = -1 := by decide
      by_cases h120 : nm.getD 0 0 = 120
      · rcases this k hk 120 (by decide) with z | z
        · rw [h120] at h; exact absurd z h
        · rw [h120]; exact z
      by_cases h97 : nm.getD 0 0 = 97
      · rcases this k hk 97 (by decide) with z | z
        · rw [h97] at h; exact absurd z h
        · rw [h97]; exact z
      by_cases h116 : nm.getD 0 0 = 116
      · rcases this k hk 116 (by decide) with z | z
        · rw [h116] at h; exact absurd z h
        · rw [h116]; exact z
      by_cases h115 : nm.getD 0 0 = 115
      · rcases this k hk 115 (by decide) with z | z
        · rw [h115] at h; exact absurd z h
        · rw [h115]; exact z
      unfold reg3
      rw [if_neg h120, if_neg h97, if_neg h116, if_neg h115]
    · rw [if_neg c8]
  · rw [if_neg c7]
/-- which names are constants: both sides -/
theorem lo_so {X : List Int32} {ns : List (List Int32)} {so va : List Int32} {E : List Ev} (hW : WfE X E) (h : NmE X ns so va E) (a : AT) (i : Nat) (hi : i < ns.length) (hn : ns.getD i [] = a.nm) : loR X (LbE E) a = true ↔ (a.nm = dotB ∨ so.getD i 0 ≠ 2) := by
  unfold loR
  by_cases hd : a.nm = dotB
  · rw [if_pos hd]; exact ⟨fun _ => Or.inl hd, fun _ => rfl⟩
  rw [if_neg hd]
  have noreg : ∀ (E1 : List Ev) (e : Ev) (E2 : List Ev), E = E1 ++ e :: E2 → e.1 < 3 → nmAt X e.2.1 = a.nm → ¬ 0 ≤ regR a.nm := by
    intro E1 e E2 h1 h2 h3 h4
    have hw := (hW E1 e E2 h1).2.2.2.2.2.2.1 h2
    unfold tkA at hw
    rw [Bool.or_eq_false_iff, h3] at hw
    exact absurd h4 (of_decide_eq_false hw.1)
  rw [fnd_same X a.nm E (0, 0) 0]
  rcases h i hi with ⟨E1, e, E2, h1, h2, h3, h4, h5⟩ | ⟨h1, h2⟩
  · rw [hn] at h3
    rw [if_neg (noreg E1 e E2 h1 h2 h3)]
    rcases fnd_ev X a.nm E (0, 0) 0 with ⟨-, g⟩ | ⟨F1, f, F2, g1, g2, g3, g4, g5⟩
    · exact absurd h3 (g e (by rw [h1]; simp) h2)
    · obtain ⟨rfl, rfl⟩ := lab_uniq hW h1 g1 h2 g2 (h3.trans g3.symm)
      rw [g4, Nat.zero_add]
      have hlt : (LbE E1).length < (LbE E).length := by
        rw [h1, LbE_app, LbE_cons, if_pos (by omega), List.length_append, List.length_append]
        simp only [List.length_cons, List.length_nil]
        omega
      show (!decide (((LbE E).getD (LbE E1).length lb0).2.1 = 2)) = true ↔ _
      rw [← (lbS_at E (0, 0) _ hlt).2.1, g5]
      show (!decide (e.1 = 2)) = true ↔ _
      by_cases k2 : e.1 = 2
      · rw [decide_eq_true k2]
        refine ⟨fun z => (by cases z), fun z => ?_⟩
        rcases z with z | z
        · exact absurd z hd
        · exact absurd (h4 k2).1 z
      · rw [decide_eq_false k2]
        refine ⟨fun _ => Or.inr ?_, fun _ => rfl⟩
        rw [(h5 k2).1]; decide
  · have hne : so.getD i 0 ≠ 2 := by rw [h2]; decide
    by_cases hr : 0 ≤ regR a.nm
    · rw [if_pos hr]; exact ⟨fun _ => Or.inr hne, fun _ => rfl⟩
    · rw [if_neg hr]
      rcases fnd_ev X a.nm E (0, 0) 0 with ⟨g0, -⟩ | ⟨F1, f, F2, g1, g2, g3, g4, g5⟩
      · rw [g0]; exact ⟨fun _ => Or.inr hne, fun _ => rfl⟩
      · exfalso
        exact h1 f (by rw [g1]; simp) g2 (g3.trans hn.symm)
/-- is a name taken: both sides -/
theorem tk_so {X : List Int32} {ns : List (List Int32)} {so va : List Int32} {E : List Ev} (h : NmE X ns so va E) (i : Nat) (hi : i < ns.length) : (fnd X (ns.getD i []) (LbE E) 0).isSome = decide (so.getD i 0 ≠ 0) := by
  rw [fnd_same X _ E (0, 0) 0]
  rcases h i hi with ⟨E1, e, E2, h1, h2, h3, h4, h5⟩ | ⟨h1, h2⟩
  · rcases fnd_ev X (ns.getD i []) E (0, 0) 0 with ⟨-, g⟩ | ⟨F1, f, F2, g1, g2, g3, g4, g5⟩
    · exact absurd h3 (g e (by rw [h1]; simp) h2)
    · rw [g4]
      have : so.getD i 0 ≠ 0 := by
        by_cases k2 : e.1 = 2
        · rw [(h4 k2).1]; decide
        · rw [(h5 k2).1]; decide
      rw [decide_eq_true this]
      rfl
  · rcases fnd_ev X (ns.getD i []) E (0, 0) 0 with ⟨g0, -⟩ | ⟨F1, f, F2, g1, g2, g3, g4, g5⟩
    · rw [g0, h2]; rfl
    · exact absurd g3 (h1 f (by rw [g1]; simp) g2)
