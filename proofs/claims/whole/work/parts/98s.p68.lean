/-! ===== depth of steps; compile, whole ===== -/
def dp1 (n : Option Nat) (s : XSt) : Option Nat := n.bind (fun d => if isOp s.1 = true then some (d + 1) else if levN s.1 = 7 then (if 1 ≤ d then some d else none) else (if 2 ≤ d then some (d - 1) else none))
def dpt (R : List XSt) : Option Nat := R.foldl dp1 (some 0)
theorem dpt_snoc (R : List XSt) (s : XSt) : dpt (R ++ [s]) = dp1 (dpt R) s := by
  unfold dpt
  rw [List.foldl_append]
  rfl
theorem stl_dep {l : Nat} (hl : 1 ≤ l) : ∀ (S : List Int32) (R : List XSt), (∀ s ∈ S, okS s) → dpt R = some (1 + nB S) → dpt (stl l S R).2 = some (1 + nB (stl l S R).1)
  | [], R, _, h => h
  | s :: S, R, hok, h => by
    rw [stl]
    by_cases hc : levN s < l
    · rw [if_pos hc]; exact h
    · rw [if_neg hc]
      have hs := hok s List.mem_cons_self
      refine stl_dep hl S _ (fun t ht => hok t (List.mem_cons_of_mem _ ht)) ?_
      rw [dpt_snoc, h]
      unfold dp1
      simp only [Option.bind_some]
      rw [if_neg (by rw [show isOp s = false from okS_op hs]; decide)]
      by_cases h7 : levN s = 7
      · rw [if_pos (show levN s = 7 from h7), if_pos (by omega), nB_skip (by unfold isB2; rw [h7]; rfl)]
      · rw [if_neg (show ¬ levN s = 7 from h7), nB_cons (isB2_of (by omega) h7 hs), if_pos (by omega)]
        congr 1
        omega
theorem c40_0 {S : List Int32} (h : c40 S = 0) (hok : ∀ s ∈ S, okS s) : ∀ R : List XSt, (stl 1 S R).1 = [] := by
  induction S with
  | nil => intro R; rfl
  | cons s S ih =>
    intro R
    have hs := hok s List.mem_cons_self
    have h40 : s ≠ 40 := by intro z; rw [z, c40_cons] at h; omega
    rw [c40_skip h40] at h
    rw [stl, if_neg (by have := ((okS_facts hs).2.2.2); intro z; exact h40 (this.mp (by omega)))]
    exact ih h (fun t ht => hok t (List.mem_cons_of_mem _ ht)) _
theorem cmpA_dep : ∀ (n : Nat) (ts : List AT) (w : Bool) (o : Nat) (S : List Int32) (R : List XSt) (S' : List Int32) (R' : List XSt) (o' : Nat) (rest : List AT), (∀ a ∈ ts, levN (AT.k a) < 7) → (∀ s ∈ S, okS s) → o = c40 S → dpt R = some (nB S + if w = true then 0 else 1) → cmpA n ts w o S R = some (S', R', o', rest) → dpt R' = some (1 + nB S') ∧ (∀ s ∈ S', okS s) ∧ o' = c40 S' := by
  intro n
  induction n with
  | zero => intro ts w o S R S' R' o' rest _ _ _ _ h; cases h
  | succ n ih =>
    intro ts w o S R S' R' o' rest htk hok ho hd h
    cases ts with
    | nil => cases w <;> cases h
    | cons a r =>
      have htk' : ∀ b ∈ r, levN (AT.k b) < 7 := fun b hb => htk b (List.mem_cons_of_mem _ hb)
      have push : ∀ (t : Int32), okS t → isB2 t = false → ∀ s ∈ (t :: S), okS s := fun t ht _ s hs => by
        rcases List.mem_cons.mp hs with rfl | hs
        · exact ht
        · exact hok s hs
      cases w with
      | true =>
        rw [if_pos rfl, Nat.add_zero] at hd
        have op : ∀ (k : Int32), isOp k = true → dpt (R ++ [(k, a)]) = some (nB S + if false = true then 0 else 1) := fun k hk => by
          rw [dpt_snoc, hd]
          unfold dp1
          simp only [Option.bind_some]
          rw [if_pos (show isOp k = true from hk)]
          rfl
        rw [cmpA] at h
        by_cases c37 : a.k = 37
        · rw [if_pos c37] at h
          match r, h, htk' with
          | [], h, _ => cases h
          | [b], h, _ => cases h
          | b :: c :: r3, h, htk' =>
            have h' : (if b.k = 2 ∧ (b.nm = hiB ∨ b.nm = loB) ∧ c.k = 40 then cmpA n r3 true (o + 1) (40 :: (if b.nm = hiB then 12 else 13) :: S) R else none) = some (S', R', o', rest) := h
            split at h'
            · have hok2 : okS (if b.nm = hiB then (12 : Int32) else 13) ∧ isB2 (if b.nm = hiB then (12 : Int32) else 13) = false ∧ (if b.nm = hiB then (12 : Int32) else 13) ≠ 40 := by split <;> exact ⟨by unfold okS; decide, by decide, by decide⟩
              generalize (if b.nm = hiB then (12 : Int32) else 13) = t at *
              refine ih r3 true (o + 1) (40 :: t :: S) R S' R' o' rest (fun x hx => htk' x (by simp [hx])) ?_ ?_ ?_ h'
              · intro s hs
                rcases List.mem_cons.mp hs with rfl | hs
                · exact Or.inl rfl
                · exact push t hok2.1 hok2.2.1 s hs
              · rw [c40_cons, c40_skip hok2.2.2, ho]
              · rw [if_pos rfl, Nat.add_zero, nB_skip (by decide), nB_skip hok2.2.1]; exact hd
            · cases h'
        rw [if_neg c37] at h
        by_cases c34 : a.k = 3 ∨ a.k = 4
        · rw [if_pos c34] at h
          exact ih r false o S _ S' R' o' rest htk' hok ho (op 3 (by decide)) h
        rw [if_neg c34] at h
        by_cases c2 : a.k = 2
        · rw [if_pos c2] at h
          exact ih r false o S _ S' R' o' rest htk' hok ho (op _ (isOp_nm a).1) h
        rw [if_neg c2] at h
        by_cases c5 : a.k = 5
        · rw [if_pos c5] at h
          exact ih r false o S _ S' R' o' rest htk' hok ho (op _ (isOp_nr a).1) h
        rw [if_neg c5] at h
        have pu : ∀ (t : Int32), okS t → isB2 t = false → t ≠ 40 → cmpA n r true o (t :: S) R = some (S', R', o', rest) → dpt R' = some (1 + nB S') ∧ (∀ s ∈ S', okS s) ∧ o' = c40 S' := fun t h1 h2 h3 h4 =>
          ih r true o (t :: S) R S' R' o' rest htk' (push t h1 h2) (by rw [c40_skip h3]; exact ho) (by rw [if_pos rfl, Nat.add_zero, nB_skip h2]; exact hd) h4
        by_cases c45 : a.k = 45
        · rw [if_pos c45] at h
          exact pu 10 (by unfold okS; decide) (by decide) (by decide) h
        rw [if_neg c45] at h
        by_cases c126 : a.k = 126
        · rw [if_pos c126] at h
          exact pu 11 (by unfold okS; decide) (by decide) (by decide) h
        rw [if_neg c126] at h
        by_cases c40' : a.k = 40
        · rw [if_pos c40'] at h
          exact ih r true (o + 1) (40 :: S) R S' R' o' rest htk' (push 40 (Or.inl rfl) (by decide)) (by rw [c40_cons, ho]) (by rw [if_pos rfl, Nat.add_zero, nB_skip (by decide)]; exact hd) h
        · rw [if_neg c40'] at h; cases h
      | false =>
        rw [if_neg (by decide)] at hd
        have hd' : dpt R = some (1 + nB S) := by rw [hd]; congr 1; omega
        rw [cmpA] at h
        by_cases c41 : a.k = 41 ∧ 0 < o
        · rw [if_pos c41] at h
          have hst := stl_dep (l := 1) (by omega) S R hok hd'
          obtain ⟨ok1, -⟩ := stl_ok (l := 1) S R hok
          have hc4 : c40 (stl 1 S R).1 = c40 S := stl_c40 (by omega) S R
          have hhd := stl_head (l := 1) S R
          generalize stl 1 S R = st at *
          cases hs1 : st.1 with
          | nil => rw [hs1] at hc4; rw [← hc4] at ho; have h0 : o = 0 := ho; omega
          | cons s S2 =>
            have hs40 : s = 40 := by
              have h1 := hhd s S2 hs1
              exact ((okS_facts (ok1 s (by rw [hs1]; exact List.mem_cons_self))).2.2.2).mp (by omega)
            rw [hs1] at h hst hc4
            rw [hs40] at hst hc4
            rw [nB_skip (by decide)] at hst
            rw [c40_cons] at hc4
            exact ih r false (o - 1) S2 st.2 S' R' o' rest htk' (fun t ht => ok1 t (by rw [hs1]; exact List.mem_cons_of_mem _ ht)) (by omega) (by rw [if_neg (by decide), hst]; congr 1; omega) h
        rw [if_neg c41] at h
        by_cases hl : 0 < levN a.k
        · rw [if_pos hl] at h
          have hst := stl_dep (l := levN a.k) (by omega) S R hok hd'
          obtain ⟨ok1, -⟩ := stl_ok (l := levN a.k) S R hok
          have hc4 : c40 (stl (levN a.k) S R).1 = c40 S := stl_c40 (by omega) S R
          have hok' := lev_ok hl
          have hb := isB2_of hl (by have := htk a List.mem_cons_self; omega) hok'
          refine ih r true o (a.k :: (stl (levN a.k) S R).1) (stl (levN a.k) S R).2 S' R' o' rest htk' ?_ ?_ ?_ h
          · intro s hs
            rcases List.mem_cons.mp hs with rfl | hs
            · exact hok'
            · exact ok1 s hs
          · rw [c40_skip (by intro z; rw [z] at hl; exact absurd hl (by decide)), hc4]; exact ho
          · rw [if_pos rfl, Nat.add_zero, nB_cons hb]; exact hst
        · rw [if_neg hl] at h
          cases h
          exact ⟨hd', hok, ho⟩
theorem cmpT_dep {ts : List AT} {R : List XSt} {rest : List AT} (htk : ∀ a ∈ ts, levN (AT.k a) < 7) (h : cmpT ts = some (R, rest)) : dpt R = some 1 := by
  unfold cmpT at h
  cases hc : cmpA ts.length ts true 0 [] [] with
  | none => rw [hc] at h; cases h
  | some z =>
    obtain ⟨S1, R1, o1, r1⟩ := z
    rw [hc] at h
    have h' : (if 0 < o1 then none else some ((stl 1 S1 R1).2, r1)) = some (R, rest) := h
    split at h'
    · cases h'
    · cases h'
      obtain ⟨d1, d2, d3⟩ := cmpA_dep _ ts true 0 [] [] S1 R1 o1 rest htk (fun s hs => by cases hs) rfl rfl hc
      have e := stl_dep (l := 1) (by omega) S1 R1 d2 d1
      rw [c40_0 (by omega) d2] at e
      exact e
section
variable {N : Nat} {ns : List (List Int32)} {nr : Nat → Nat} {Y so va op re od K0 V0 Z : List Int32} {sN sP sI : CS} {x y : Nat} {lo : AT → Bool}
def CmT (ns : List (List Int32)) (nr : Nat → Nat) (Y K0 V0 Z : List Int32) (lo : AT → Bool) (sT : CS) (c : Option (List XSt × List AT)) (v : Int32) (u : CS × CS) : Prop := match c with
  | none => CmpB ns Y sT v u
  | some (R, rest) => CmpG ns nr Y K0 V0 Z lo sT R rest v u
theorem C_compile (hN : 70000 < N) (hNm : NmS sN ns so va op re od) (hP : sP.2.2 20 = 10 ∧ ∀ d, d < 10 → sP.2.1 20 d = nI (nr d)) (hlo : ∀ (a : AT) (i : Nat), i < ns.length → ns.getD i [] = a.nm → (lo a = true ↔ (a.nm = dotB ∨ so.getD i 0 ≠ 2))) {S0 : List Int32} {ts : List AT} {sF sT : CS} (hE : HasE ts) (hNr : NrF ts) (hT : TPos ns Y sT ts) (hF : FR4 sF K0 V0 S0 Z) (hk : K0.length + ts.length ≤ 60000) (hv : V0.length + ts.length ≤ 60000) :
    RC (fp sF x y) (C_Frm_compile N sF sN sT sP sI) (fun v u c => c = fp u.1 x y ∧ CmT ns nr Y K0 V0 Z lo sT (cmpT ts) v u) := by
  unfold C_Frm_compile
  refine RC_bnd (RC_bnd (RC_bnd ?_))
  obtain ⟨f0, f1, f2, f3⟩ := hF
  have hl := T_left hT
  rw [← fp_cF sF 0 1, ← fp_cF (cF sF 0 1) 2 1, ← fp_cF (cF (cF sF 0 1) 2 1) 3 0]
  refine RC_Fcut (n := 0) (by omega) (show RowL (rg (cF (cF (cF sF 0 1) 2 1) 3 0) 2) S0 by rw [rg_cF (by decide), rg_cF (by decide), rg_cF (by decide)]; exact f2) (by omega) (fun sF1 c1 c2 c3 => RC_cr hl.1 ?_)
  rw [List.take_zero] at c1
  have e0 : sF1.1 0 = 1 := by rw [c3 0 (by omega)]; rfl
  have e2 : sF1.1 2 = 1 := by rw [c3 2 (by omega)]; rfl
  have e3 : sF1.1 3 = 0 := by rw [c3 3 (by omega)]; rfl
  have key := C_cmp (x := x) (y := y) (Y := Y) (K0 := K0) (V0 := V0) (Z := Z) (sI := sI) hN hNm hP hlo ts.length ts true 0 [] [] N ts.length [] [] sF1 sT (Nat.le_refl _) hE hNr hT ⟨?_, ?_, c1, ?_⟩ trivial (fun s hs => by cases hs) rfl e0 e2 e3 (Nat.le_refl _) (by omega) (by omega) (by simp only [List.length_append, List.length_nil]; omega) (by simp only [List.length_append, List.length_nil]; omega)
  · refine RC_imp key (fun v u c h => ⟨h.1, ?_⟩)
    have h2 := h.2
    unfold cmpT
    generalize cmpA ts.length ts true 0 [] [] = z at h2
    unfold CmpP at h2
    unfold CmT
    match z, h2 with
    | none, h2 => exact h2
    | some (S1, R1, o1, rest), h2 =>
      simp only [] at h2
      show (match (if 0 < o1 then none else some ((stl 1 S1 R1).2, rest)) with
        | none => CmpB ns Y sT v u
        | some (R, rest) => CmpG ns nr Y K0 V0 Z lo sT R rest v u)
      by_cases h01 : 0 < o1
      · rw [if_pos h01] at h2 ⊢; exact h2
      · rw [if_neg h01] at h2 ⊢; exact h2
  · rw [List.append_nil, c2 0 (by decide), rg_cF (by decide), rg_cF (by decide), rg_cF (by decide)]; exact f0
  · rw [List.append_nil, c2 1 (by decide), rg_cF (by decide), rg_cF (by decide), rg_cF (by decide)]; exact f1
  · rw [c2 3 (by decide), rg_cF (by decide), rg_cF (by decide), rg_cF (by decide)]; exact f3
end
