/-! ===== past READ: a whole statement; what fixed numbers hang on ===== -/
theorem evR_congr {η η' : Int32 → AT → Int32 × Bool} : ∀ (R : List XSt) (V : EvS), (∀ s ∈ R, isOp s.1 = true → η s.1 s.2 = η' s.1 s.2) → R.foldl (evs η) V = R.foldl (evs η') V
  | [], V, _ => rfl
  | s :: R, V, h => by
    simp only [List.foldl_cons]
    have e : evs η V s = evs η' V s := by
      unfold evs
      by_cases c : isOp s.1 = true
      · rw [if_pos c, if_pos c, h s (List.mem_cons_self ..) c]
      · rw [if_neg c, if_neg c]
    rw [e]
    exact evR_congr R _ (fun t ht => h t (List.mem_cons_of_mem _ ht))
/-- steps of an expression: the point is the point -/
def PWf (R : List XSt) : Prop := ∀ s ∈ R, s.1 = 7 → s.2.nm = dotB
theorem stl_wf {l : Nat} : ∀ (S : List Int32) (R : List XSt), (∀ s ∈ S, s ≠ 7) → PWf R → (∀ s ∈ (stl l S R).1, s ≠ 7) ∧ PWf (stl l S R).2
  | [], R, h1, h2 => ⟨h1, h2⟩
  | s :: S, R, h1, h2 => by
    simp only [stl]
    split
    · exact ⟨h1, h2⟩
    · refine stl_wf S _ (fun x hx => h1 x (List.mem_cons_of_mem _ hx)) (fun x hx => ?_)
      rcases List.mem_append.mp hx with q | q
      · exact h2 x q
      · rw [List.mem_singleton.mp q]
        intro z
        exact absurd z (h1 s (List.mem_cons_self ..))
theorem PWf_snoc {R : List XSt} {s : XSt} (h : PWf R) (hs : s.1 = 7 → s.2.nm = dotB) : PWf (R ++ [s]) := by
  intro x hx
  rcases List.mem_append.mp hx with q | q
  · exact h x q
  · rw [List.mem_singleton.mp q]; exact hs
theorem cmpA_wf : ∀ (n : Nat) (ts : List AT) (w : Bool) (o : Nat) (S : List Int32) (R : List XSt) (S' : List Int32) (R' : List XSt) (o' : Nat) (rest : List AT), (∀ s ∈ S, s ≠ 7) → PWf R → cmpA n ts w o S R = some (S', R', o', rest) → (∀ s ∈ S', s ≠ 7) ∧ PWf R'
  | 0, ts, w, o, S, R, S', R', o', rest, _, _, h => by cases ts <;> cases w <;> cases h
  | n + 1, [], w, o, S, R, S', R', o', rest, _, _, h => by cases w <;> cases h
  | n + 1, a :: r, true, o, S, R, S', R', o', rest, h1, h2, h => by
    have ih := fun (ts : List AT) (w : Bool) (o : Nat) (S : List Int32) (R : List XSt) (h1 : ∀ s ∈ S, s ≠ 7) (h2 : PWf R) (hh : cmpA n ts w o S R = some (S', R', o', rest)) => cmpA_wf n ts w o S R S' R' o' rest h1 h2 hh
    have push : ∀ x : Int32, x ≠ 7 → ∀ s ∈ x :: S, s ≠ 7 := by
      intro x hx s hs
      rcases List.mem_cons.mp hs with e | e
      · rw [e]; exact hx
      · exact h1 s e
    rw [cmpA] at h
    by_cases c37 : a.k = 37
    · rw [if_pos c37] at h
      match r, h with
      | [], h => cases h
      | [_], h => cases h
      | b :: c :: r', h =>
        have h' : (if AT.k b = 2 ∧ (AT.nm b = hiB ∨ AT.nm b = loB) ∧ AT.k c = 40 then cmpA n r' true (o + 1) (40 :: (if AT.nm b = hiB then 12 else 13) :: S) R else none) = some (S', R', o', rest) := h
        by_cases q : AT.k b = 2 ∧ (AT.nm b = hiB ∨ AT.nm b = loB) ∧ AT.k c = 40
        · rw [if_pos q] at h'
          refine ih _ _ _ _ _ ?_ h2 h'
          intro s hs
          rcases List.mem_cons.mp hs with e | e
          · rw [e]; decide
          · refine push _ ?_ s e
            split <;> decide
        · rw [if_neg q] at h'; cases h'
    rw [if_neg c37] at h
    by_cases c3 : a.k = 3 ∨ a.k = 4
    · rw [if_pos c3] at h; exact ih _ _ _ _ _ h1 (PWf_snoc h2 (fun z => absurd (show (3 : Int32) = 7 from z) (by decide))) h
    rw [if_neg c3] at h
    by_cases c2 : a.k = 2
    · rw [if_pos c2] at h
      refine ih _ _ _ _ _ h1 (PWf_snoc h2 (fun z => ?_)) h
      have z' : nmK a = 7 := z
      unfold nmK at z'
      split at z'
      · assumption
      · exact absurd z' (by decide)
    rw [if_neg c2] at h
    by_cases c5 : a.k = 5
    · rw [if_pos c5] at h
      refine ih _ _ _ _ _ h1 (PWf_snoc h2 (fun z => ?_)) h
      exact absurd (Or.inr z) (isOp_nr a).2.1
    rw [if_neg c5] at h
    by_cases c45 : a.k = 45
    · rw [if_pos c45] at h; exact ih _ _ _ _ _ (push 10 (by decide)) h2 h
    rw [if_neg c45] at h
    by_cases c126 : a.k = 126
    · rw [if_pos c126] at h; exact ih _ _ _ _ _ (push 11 (by decide)) h2 h
    rw [if_neg c126] at h
    by_cases c40 : a.k = 40
    · rw [if_pos c40] at h; exact ih _ _ _ _ _ (push 40 (by decide)) h2 h
    rw [if_neg c40] at h
    cases h
  | n + 1, a :: r, false, o, S, R, S', R', o', rest, h1, h2, h => by
    have ih := fun (ts : List AT) (w : Bool) (o : Nat) (S : List Int32) (R : List XSt) (h1 : ∀ s ∈ S, s ≠ 7) (h2 : PWf R) (hh : cmpA n ts w o S R = some (S', R', o', rest)) => cmpA_wf n ts w o S R S' R' o' rest h1 h2 hh
    rw [cmpA] at h
    by_cases c41 : a.k = 41 ∧ 0 < o
    · rw [if_pos c41] at h
      obtain ⟨w1, w2⟩ := stl_wf (l := 1) S R h1 h2
      exact ih _ _ _ _ _ (fun s hs => w1 s (List.mem_of_mem_tail hs)) w2 h
    rw [if_neg c41] at h
    by_cases cl : 0 < levN a.k
    · rw [if_pos cl] at h
      obtain ⟨w1, w2⟩ := stl_wf (l := levN a.k) S R h1 h2
      refine ih _ _ _ _ _ (fun s hs => ?_) w2 h
      rcases List.mem_cons.mp hs with e | e
      · rw [e]; intro z; rw [z] at cl; exact absurd cl (by decide)
      · exact w1 s e
    rw [if_neg cl] at h
    cases h
    exact ⟨h1, h2⟩
theorem cmpT_wf {ts : List AT} {R : List XSt} {rest : List AT} (h : cmpT ts = some (R, rest)) : PWf R := by
  unfold cmpT at h
  cases hc : cmpA ts.length ts true 0 [] [] with
  | none => rw [hc] at h; cases h
  | some x =>
    obtain ⟨S', R', o', rest'⟩ := x
    rw [hc] at h
    have h' : (if 0 < o' then none else some ((stl 1 S' R').2, rest')) = some (R, rest) := h
    by_cases q : 0 < o'
    · rw [if_pos q] at h'; cases h'
    · rw [if_neg q] at h'
      cases h'
      obtain ⟨w1, w2⟩ := cmpA_wf _ _ _ _ _ _ _ _ _ _ (fun s hs => by cases hs) (fun s hs => by cases hs) hc
      exact (stl_wf S' R' w1 w2).2
section
variable {N : Nat} {X : List Int32} {σ0 : MS} {Λ : List Lb} {ln cur start : Nat}
theorem A_stm (σ : MS) {md : Int32} (hmd : md ≠ 0) (C : Cx N X (st0 σ md start) Λ ln cur start) {lev sec kd0 : Nat} (hp : Px (st0 σ md start) cur start lev sec kd0) (hst : start ≤ X.length) {a : AT} {r : List AT} (hl : lexS X start = a :: r) (hk : a.k = 2) {o : OD} (ho : opO a.nm = some o) (hz : (stm (η0 X Λ (st0 σ md start) start) (loR X Λ) nk o r).1 = 0) (hlo : LokO (st0 σ md start) lev o r) (hlv : isJ (srO o r).2.2.1 = true → lev ≤ 2) : RR (M_statement N (nI start) md σ) (fun _ σ' => ArP X Λ (st0 σ md start) ln cur start lev o r σ') := by
  have h17 : (st0 σ md start).1 17 ≠ 0 := hmd
  have hX := C.2.1.small
  refine M_stm σ C hst hl hk (fun hn σ1 h1 => ?_) (fun k od1 hop hk' σ1 hG => ?_)
  · unfold opO at ho
    rw [hn] at ho
    cases ho
  · have hPT := opk_PT hop hk'
    obtain ⟨ok1, ok2⟩ := od_ok (M_shapes k) (M_patterns k ||| od1)
    obtain ⟨q, hlx, hg⟩ := id hG
    have hlen : r.length ≤ 4098 := by
      have := lexS_len X q
      rw [hlx] at this
      omega
    have eo : o = od (M_shapes k) (M_patterns k ||| od1) := by
      unfold opO at ho
      rw [hop] at ho
      simp only [Option.map_some, Option.some.injEq] at ho
      exact ho.symm
    rw [eo] at hz hlo hlv ⊢
    refine bd_all C hPT hG hp hlen hlo (fun σ' hB => ?_)
    have hA := A_pre h17 hp ok1 ok2 (od5 _ _) hz hlv hB
    have e17 : σ'.1 17 = (st0 σ md start).1 17 := by
      unfold ArP at hA
      rcases hA.cases with ⟨-, -, c3⟩ | ⟨-, Bs, c2, -⟩
      · exact c3.1.1 17 (by decide)
      · rw [c2.f.1 17 (by decide)]
        unfold bsA
        split
        · exact sF_ne _ _ (by decide)
        · split
          · rfl
          · split
            · exact sF_ne _ _ (by decide)
            · rfl
    unfold M_statement_331 M_statement_351
    exact RR_n (by rw [e17]; exact h17) (RR_ret hA)
/-- two environments that agree on what is fixed -/
def EqF (η η' : Int32 → AT → Int32 × Bool) (lo : AT → Bool) : Prop := ∀ (k : Int32) (a : AT), isOp k = true → (k = 7 → a.nm = dotB) → lz lo (k, a) = false → η k a = η' k a
theorem evV_fix {η η' : Int32 → AT → Int32 × Bool} {lo : AT → Bool} (h : EqF η η' lo) {R : List XSt} (hw : PWf R) (hR : R.any (lz lo) = false) : evV η R = evV η' R := by
  have e : evR η R = evR η' R := by
    unfold evR
    refine evR_congr R _ (fun s hs ho => h s.1 s.2 ho (hw s hs) ?_)
    have := List.any_eq_false.mp hR s hs
    simpa using this
  unfold evV
  rw [e]
theorem fxF_fix {η η' : Int32 → AT → Int32 × Bool} {lo : AT → Bool} (h : EqF η η' lo) (low high : Int32) {R : List XSt} (hw : PWf R) : fxF η lo low high R = fxF η' lo low high R ∧ (fxF η lo low high R = 0 → (evV η R).1 = (evV η' R).1) := by
  by_cases hR : R.any (lz lo) = true
  · unfold fxF
    rw [if_pos hR, if_pos hR]
    exact ⟨rfl, fun z => absurd z (by decide)⟩
  · have e := evV_fix h hw (by simpa using hR)
    unfold fxF
    rw [e]
    exact ⟨rfl, fun _ => rfl⟩
theorem f1T_fix {η η' : Int32 → AT → Int32 × Bool} {lo : AT → Bool} (h : EqF η η' lo) (low high : Int32) (ts : List AT) : f1T η lo low high ts = f1T η' lo low high ts := by
  unfold f1T
  cases hc : cmpT ts with
  | none => rfl
  | some z =>
    obtain ⟨e1, e2⟩ := fxF_fix h low high (cmpT_wf hc)
    simp only []
    rw [← e1]
    by_cases c : fxF η lo low high z.1 ≠ 0
    · rw [if_pos c, if_pos c]
    · rw [if_neg c, if_neg c, e2 (Decidable.not_not.mp c)]
theorem ldT_fix {η η' : Int32 → AT → Int32 × Bool} {lo : AT → Bool} (h : EqF η η' lo) (ts : List AT) : ldT η lo ts = ldT η' lo ts := by
  unfold ldT
  split
  · rfl
  · cases tk1 44 (regT 100 ts).2.2 with
    | none => rfl
    | some x =>
      simp only []
      cases hc : cmpT x.2 with
      | none => rfl
      | some z =>
        obtain ⟨e1, e2⟩ := fxF_fix h (-2147483648) 2147483647 (cmpT_wf hc)
        simp only []
        rw [← e1]
        by_cases c : fxF η lo (-2147483648) 2147483647 z.1 ≠ 0
        · rw [if_pos c, if_pos c]
        · rw [if_neg c, if_neg c, e2 (Decidable.not_not.mp c)]
theorem eqT_fix {η η' : Int32 → AT → Int32 × Bool} {lo : AT → Bool} (h : EqF η η' lo) (tk : List Int32 → Bool) (ts : List AT) : eqT η lo tk ts = eqT η' lo tk ts := by
  unfold eqT
  cases tk1 2 ts with
  | none => rfl
  | some x =>
    simp only []
    split
    · rfl
    · cases tk1 44 x.2 with
      | none => rfl
      | some y =>
        simp only []
        cases hc : cmpT y.2 with
        | none => rfl
        | some z =>
          obtain ⟨e1, e2⟩ := fxF_fix h (-2147483648) 2147483647 (cmpT_wf hc)
          simp only []
          rw [← e1]
          by_cases c : fxF η lo (-2147483648) 2147483647 z.1 ≠ 0
          · rw [if_pos c, if_pos c]
          · rw [if_neg c, if_neg c, e2 (Decidable.not_not.mp c)]
theorem stm_fix {η η' : Int32 → AT → Int32 × Bool} {lo : AT → Bool} (h : EqF η η' lo) (tk : List Int32 → Bool) (o : OD) (ts : List AT) : stm η lo tk o ts = stm η' lo tk o ts := by
  unfold stm
  rw [eqT_fix h, f1T_fix h, f1T_fix h, ldT_fix h]
/-- an environment for what is fixed alone -/
def ηK (X : List Int32) (Λ : List Lb) : Int32 → AT → Int32 × Bool := ηR X Λ 0 0 0
theorem EqF_K (base addr : Int32) (start : Nat) : EqF (ηR X Λ base addr start) (ηK X Λ) (loR X Λ) := by
  intro k a ho h7 hl
  unfold ηK ηR
  unfold lz at hl
  dsimp only at hl
  by_cases k3 : k = 3
  · rw [if_pos k3, if_pos k3]
  rw [if_neg k3, if_neg k3]
  by_cases k27 : k = 2 ∨ k = 7
  · rw [if_pos k27] at hl
    unfold loR at hl
    by_cases hd : a.nm = dotB
    · rw [if_pos hd] at hl; cases hl
    rw [if_neg hd] at hl
    by_cases hr : 0 ≤ regR a.nm
    · rw [if_pos hr] at hl; cases hl
    rw [if_neg hr] at hl
    have k7 : k ≠ 7 := fun z => hd (h7 z)
    have k2 : k = 2 := by rcases k27 with z | z; exact z; exact absurd z k7
    rw [if_neg k7, if_neg k7, if_pos k2, if_pos k2, if_neg hr, if_neg hr]
    cases hf : fnd X a.nm Λ 0 with
    | none => rw [hf] at hl; exact absurd (show true = false from hl) (by decide)
    | some i =>
      rw [hf] at hl
      have hk2 : (Λ.getD i lb0).2.1 = 2 := by
        have : cstO Λ (some i) = true := by simpa using hl
        exact of_decide_eq_true this
      have e : ∀ b, valO b Λ (some i) = (Λ.getD i lb0).2.2 := by
        intro b
        show valL b (Λ.getD i lb0) = _
        unfold valL
        rw [hk2]
        rfl
      rw [e, e]
  · rw [if_neg k27] at hl
    exfalso
    simp only [isOp, decide_eq_true_eq] at ho
    have : k = 8 ∨ k = 9 := by
      rcases ho with z | z | z | z | z
      · exact absurd z k3
      · exact absurd (Or.inl z) k27
      · exact absurd (Or.inr z) k27
      · exact Or.inl z
      · exact Or.inr z
    rw [decide_eq_true this] at hl
    cases hl
end
