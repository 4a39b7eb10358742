/-! ===== what is known of the events, built up line by line ===== -/
def StW (X : List Int32) (Λ : List Lb) (e : Ev) : Prop := ∃ (a : AT) (r : List AT) (o : OD) (lev : Nat), lexS X e.2.1 = a :: r ∧ a.p = e.2.1 ∧ a.k = 2 ∧ opO a.nm = some o ∧ (stK X Λ o r).1 = 0 ∧ e.2.2.2.2.2 = (stK X Λ o r).2.1.map (curL lev) ∧ ((∃ i ∈ (stK X Λ o r).2.1, isJ i.1 = true ∧ LvR i.1 i.2.1 ≤ lev ∧ lev ≤ lvM i.1) ∨ ((∀ i ∈ (stK X Λ o r).2.1, isJ i.1 = false) ∧ lev = 0))
def WfP (X : List Int32) (E1 : List Ev) (e : Ev) : Prop := (∀ e' ∈ E1, e'.2.1 < e.2.1) ∧ e.2.1 < X.length ∧ e.2.2.2.1 < 2 ∧ e.2.2.1 = nlc X e.2.1 + 1 ∧ (e.1 = 5 → StW X (LbE E1) e) ∧ (e.1 ≠ 5 → e.2.2.2.2.2 = []) ∧ (e.1 < 3 → tkA X (LbE E1) (nmAt X e.2.1) = false) ∧ (e.1 = 2 ∨ e.1 = e.2.2.2.1 ∨ e.1 = e.2.2.2.1 + 3 ∨ e.1 = 5) ∧ (e.1 = 3 ∨ e.1 = 4 → isDg (tw X e.2.1) = true)
def WfE (X : List Int32) (E : List Ev) : Prop := ∀ E1 e E2, E = E1 ++ e :: E2 → WfP X E1 e
theorem split_snoc {α : Type} {E : List α} {x : α} {E1 : List α} {e : α} {E2 : List α} (h : E ++ [x] = E1 ++ e :: E2) : (E2 = [] ∧ E1 = E ∧ e = x) ∨ (∃ E3, E = E1 ++ e :: E3) := by
  rcases List.eq_nil_or_concat E2 with rfl | ⟨E3, y, rfl⟩
  · left
    have := List.append_inj' h rfl
    exact ⟨rfl, this.1.symm, by have := this.2; simpa using this.symm⟩
  · right
    refine ⟨E3, ?_⟩
    rw [List.concat_eq_append, ← List.cons_append, ← List.append_assoc] at h
    exact (List.append_inj' h rfl).1
theorem WfE_nil (X : List Int32) : WfE X [] := fun E1 e E2 h => by
  have := congrArg List.length h
  simp at this
theorem WfE_snoc {X : List Int32} {E : List Ev} {e : Ev} (h : WfE X E) (he : WfP X E e) : WfE X (E ++ [e]) := fun E1 e' E2 hs => by
  rcases split_snoc hs with ⟨rfl, rfl, rfl⟩ | ⟨E3, h3⟩
  · exact he
  · exact h E1 e' E3 h3
def Bel (E : List Ev) (q : Nat) : Prop := ∀ e ∈ E, e.2.1 < q
theorem Bel_snoc {E : List Ev} {e : Ev} {q : Nat} (h : Bel E q) (he : e.2.1 < q) : Bel (E ++ [e]) q := fun x hx => by
  rcases List.mem_append.mp hx with h1 | h1
  · exact h x h1
  · rw [List.mem_singleton.mp h1]; exact he
theorem Bel.le {E : List Ev} {q q' : Nat} (h : Bel E q) (hq : q ≤ q') : Bel E q' := fun e he => Nat.lt_of_lt_of_le (h e he) hq
/-- the labels of a line -/
theorem rdLab_wf {X : List Int32} {sec ln : Nat} (hsec : sec < 2) : ∀ (n : Nat) (ts : List AT) (E : List Ev) (q : Nat), lexS X q = ts → WfE X E → Bel E q → nlc X q + 1 = ln → q ≤ X.length → (rdLab X sec ln n ts E).1 = 0 →
    WfE X (rdLab X sec ln n ts E).2.2.2 ∧ (∀ a, (rdLab X sec ln n ts E).2.1 = some a → a.k = 2 ∧ lexS X a.p = a :: (rdLab X sec ln n ts E).2.2.1 ∧ Bel (rdLab X sec ln n ts E).2.2.2 a.p ∧ q ≤ a.p ∧ lend (tw X) X.length a.p = lend (tw X) X.length q) ∧ ((rdLab X sec ln n ts E).2.1 = none → ∃ q2, lexS X q2 = (rdLab X sec ln n ts E).2.2.1 ∧ atE (rdLab X sec ln n ts E).2.2.1 = true ∧ Bel (rdLab X sec ln n ts E).2.2.2 q2 ∧ q ≤ q2 ∧ q2 ≤ X.length ∧ lend (tw X) X.length q2 = lend (tw X) X.length q)
  | 0, ts, E, q, _, _, _, _, _, h => absurd (show (1 : Nat) = 0 from h) (by decide)
  | n + 1, [], E, q, _, _, _, _, _, h => absurd (show (1 : Nat) = 0 from h) (by decide)
  | n + 1, a :: r, E, q, hl, hW, hB, hln, hq, h => by
    by_cases k0 : a.k = 0
    · rw [rdLab_0 X sec ln n E k0]
      exact ⟨hW, fun b z => (by cases z), fun _ => ⟨q, hl, by show decide (a.k = 0) = true; rw [k0]; rfl, hB, Nat.le_refl _, hq, rfl⟩⟩
    by_cases k24 : a.k = 2 ∨ a.k = 4
    · have n1 : a.k ≠ 1 := by rcases k24 with z | z <;> rw [z] <;> decide
      obtain ⟨L1, L2, L3, L4, L5, L6, L7, L8⟩ := lexS_line hl k0 n1
      match r, h, L6, L7, hl with
      | [], h, L6, L7, hl =>
        exfalso
        rw [rdLab] at h
        have h' : (if a.k = 0 then ((0 : Nat), (none : Option AT), [a], E) else if a.k = 2 ∨ a.k = 4 then (1, none, [], E) else (1, none, [], E)).1 = 0 := h
        rw [if_neg k0, if_pos k24] at h'
        exact absurd (show (1 : Nat) = 0 from h') (by decide)
      | b :: r2, h, L6, L7, hl =>
        rw [rdLab_c X sec ln n E k0 k24] at h ⊢
        by_cases c58 : b.k = 58
        · rw [if_pos c58] at h ⊢
          by_cases ct : a.k = 2 ∧ tkA X (LbE E) a.nm = true
          · rw [if_pos ct] at h
            exact absurd (show (4 : Nat) = 0 from h) (by decide)
          · rw [if_neg ct] at h ⊢
            obtain ⟨M1, M2, M3, M4, M5, M6, M7, M8⟩ := lexS_line (a := b) L6.symm (by rw [c58]; decide) (by rw [c58]; decide)
            have hpn : nlc X a.p + 1 = ln := by rw [nlc_line L3 (by omega)]; exact hln
            have hbn : nlc X b.e + 1 = ln := by rw [nlc_line (q := q) (by omega) (by rw [← L1, ← M1]; exact lend_ge _ _ _)]; exact hln
            have hP : WfP X E (sec + (if a.k = 4 then 3 else 0), a.p, ln, sec, 0, []) := by
              refine ⟨fun e he => Nat.lt_of_lt_of_le (hB e he) L3, ?_, hsec, hpn.symm, fun z => ?_, fun _ => rfl, fun z => ?_, ?_, fun z => ?_⟩
              · show a.p < X.length; omega
              · exfalso
                have z' : sec + (if a.k = 4 then 3 else 0) = 5 := z
                split at z' <;> omega
              · have z' : sec + (if a.k = 4 then 3 else 0) < 3 := z
                have k2 : a.k = 2 := by
                  rcases k24 with z2 | z2
                  · exact z2
                  · rw [if_pos z2] at z'; omega
                show tkA X (LbE E) (nmAt X a.p) = false
                rw [← (lexS_2 hl k2).1]
                cases ht : tkA X (LbE E) a.nm with
                | false => rfl
                | true => exact absurd ⟨k2, ht⟩ ct
              · show sec + (if a.k = 4 then 3 else 0) = 2 ∨ sec + (if a.k = 4 then 3 else 0) = sec ∨ sec + (if a.k = 4 then 3 else 0) = sec + 3 ∨ _
                split
                · exact Or.inr (Or.inr (Or.inl rfl))
                · exact Or.inr (Or.inl rfl)
              · have z' : sec + (if a.k = 4 then 3 else 0) = 3 ∨ sec + (if a.k = 4 then 3 else 0) = 4 := z
                have k4 : a.k = 4 := by
                  rcases k24 with z2 | z2
                  · rw [if_neg (by rw [z2]; decide)] at z'; omega
                  · exact z2
                exact (lexS_4 hl k4).1
            obtain ⟨i1, i2, i3⟩ := rdLab_wf hsec n r2 _ b.e M6.symm (WfE_snoc hW hP) (Bel_snoc (hB.le (by omega)) (by show a.p < b.e; omega)) hbn (by omega) h
            refine ⟨i1, fun x hx => ?_, fun hx => ?_⟩
            · obtain ⟨j1, j2, j3, j4, j5⟩ := i2 x hx
              exact ⟨j1, j2, j3, by omega, by rw [j5, M1, L1]⟩
            · obtain ⟨q2, j1, j2, j3, j4, j4', j5⟩ := i3 hx
              exact ⟨q2, j1, j2, j3, by omega, j4', by rw [j5, M1, L1]⟩
        · rw [if_neg c58] at h ⊢
          by_cases c4 : a.k = 4
          · rw [if_pos c4] at h
            exact absurd (show (1 : Nat) = 0 from h) (by decide)
          · rw [if_neg c4]
            refine ⟨hW, fun x hx => ?_, fun z => (by cases z)⟩
            cases hx
            exact ⟨k24.resolve_right c4, L7, hB.le L3, L3, L2⟩
    · rw [rdLab_bad X sec ln n E k0 k24] at h
      exact absurd (show (1 : Nat) = 0 from h) (by decide)
/-- which items are jumps -/
theorem stm_J {η : Int32 → AT → Int32 × Bool} {lo : AT → Bool} {tk : List Int32 → Bool} {o : OD} {ts : List AT} {i : AI} (hi : i ∈ (stm η lo tk o ts).2.1) (hj : isJ i.1 = true) : (stm η lo tk o ts).2.1 = sI (srO o ts) ∧ i = ((srO o ts).2.2.1, (srO o ts).2.1, (len0 (srO o ts).2.2.1 (srO o ts).2.1).toNatClampNeg, (srO o ts).2.2.2.1, []) ∧ ¬ (o.1 = 1 ∨ o.1 = 2) ∧ o.1 ≠ 3 ∧ o.1 ≠ 4 ∧ o.1 ≠ 5 ∧ o.1 ≠ 6 ∧ o.1 ≠ 7 ∧ o.1 ≠ 8 := by
  unfold stm at hi ⊢
  by_cases c1 : o.1 = 1 ∨ o.1 = 2
  · rw [if_pos c1] at hi; cases hi
  rw [if_neg c1] at hi ⊢
  by_cases c3 : o.1 = 3
  · rw [if_pos c3] at hi; cases hi
  rw [if_neg c3] at hi ⊢
  by_cases c4 : o.1 = 4
  · rw [if_pos c4] at hi
    obtain ⟨R, -, rfl⟩ := List.mem_map.mp hi
    exact absurd (show isJ 61 = true from hj) (by decide)
  rw [if_neg c4] at hi ⊢
  by_cases c5 : o.1 = 5
  · rw [if_pos c5] at hi
    obtain ⟨R, -, rfl⟩ := List.mem_map.mp hi
    exact absurd (show isJ 4 = true from hj) (by decide)
  rw [if_neg c5] at hi ⊢
  by_cases c6 : o.1 = 6
  · rw [if_pos c6] at hi
    rw [List.mem_singleton.mp hi] at hj
    exact absurd (show isJ 2 = true from hj) (by decide)
  rw [if_neg c6] at hi ⊢
  by_cases c7 : o.1 = 7
  · rw [if_pos c7] at hi
    rw [List.mem_singleton.mp hi] at hj
    exact absurd (show isJ 3 = true from hj) (by decide)
  rw [if_neg c7] at hi ⊢
  by_cases c8 : o.1 = 8
  · rw [if_pos c8] at hi
    obtain ⟨R, -, rfl⟩ := List.mem_map.mp hi
    exact absurd (show isJ 0 = true from hj) (by decide)
  rw [if_neg c8] at hi ⊢
  exact ⟨rfl, List.mem_singleton.mp hi, c1, c3, c4, c5, c6, c7, c8⟩
theorem len0_J {mk w : Int32} (h : isJ mk = true) : (len0 mk w).toNatClampNeg = 2 * 2 ^ LvR mk w ∧ LvR mk w ≤ lvM mk ∧ lvM mk ≤ 2 := by
  unfold isJ at h
  simp only [decide_eq_true_eq] at h
  have hl2 : len0 mk w = 2 ∨ len0 mk w = 4 := by
    unfold len0
    rw [if_neg (by rcases h with e | e | e <;> rw [e] <;> decide)]
    split
    · exact Or.inl rfl
    · split
      · split
        · exact Or.inl rfl
        · exact Or.inr rfl
      · split
        · exact Or.inr rfl
        · exact Or.inl rfl
  unfold LvR lvM
  rcases hl2 with e | e
  · rw [e, if_pos rfl]
    refine ⟨rfl, by omega, ?_⟩
    split <;> omega
  · rw [e, if_neg (by decide)]
    refine ⟨rfl, ?_, ?_⟩ <;> split <;> omega
theorem st_lev0 {η : Int32 → AT → Int32 × Bool} {lo : AT → Bool} {tk : List Int32 → Bool} {o : OD} {ts : List AT} : ∃ lev, (stm η lo tk o ts).2.1 = (stm η lo tk o ts).2.1.map (curL lev) ∧ ((∃ i ∈ (stm η lo tk o ts).2.1, isJ i.1 = true ∧ LvR i.1 i.2.1 ≤ lev ∧ lev ≤ lvM i.1) ∨ ((∀ i ∈ (stm η lo tk o ts).2.1, isJ i.1 = false) ∧ lev = 0)) := by
  by_cases hj : ∃ i ∈ (stm η lo tk o ts).2.1, isJ i.1 = true
  · obtain ⟨i, hi, hJ⟩ := hj
    obtain ⟨e1, e2, -⟩ := stm_J hi hJ
    have hJ' : isJ (srO o ts).2.2.1 = true := by rw [e2] at hJ; exact hJ
    have h0 := len0_J (w := (srO o ts).2.1) hJ'
    refine ⟨LvR (srO o ts).2.2.1 (srO o ts).2.1, ?_, Or.inl ⟨i, hi, hJ, ?_, ?_⟩⟩
    · rw [e1]
      unfold sI curL
      simp only [List.map_cons, List.map_nil, hJ', if_true]
      rw [h0.1]
    · rw [e2]; exact Nat.le_refl _
    · rw [e2]; exact h0.2.1
  · have hn : ∀ i ∈ (stm η lo tk o ts).2.1, isJ i.1 = false := fun i hi => by
      cases hJ : isJ i.1 with
      | false => rfl
      | true => exact absurd ⟨i, hi, hJ⟩ hj
    exact ⟨0, (curL_id hn).symm, Or.inr ⟨hn, rfl⟩⟩
/-- what a statement adds -/
theorem rdSt_wf {X : List Int32} {sec ln : Nat} (hsec : sec < 2) {a : AT} {r : List AT} {E : List Ev} (hl : lexS X a.p = a :: r) (hk : a.k = 2) (hW : WfE X E) (hB : Bel E a.p) (hln : nlc X a.p + 1 = ln) (h : (rdSt X sec ln a r E).1 = 0) :
    WfE X (rdSt X sec ln a r E).2.1 ∧ (rdSt X sec ln a r E).2.2.1 < 2 ∧ ∃ q2, lexS X q2 = (rdSt X sec ln a r E).2.2.2 ∧ atE (rdSt X sec ln a r E).2.2.2 = true ∧ Bel (rdSt X sec ln a r E).2.1 q2 ∧ a.p ≤ q2 ∧ q2 ≤ X.length ∧ lend (tw X) X.length q2 = lend (tw X) X.length a.p := by
  have hk0 : a.k ≠ 0 := by rw [hk]; decide
  have hk1 : a.k ≠ 1 := by rw [hk]; decide
  obtain ⟨L1, L2, L3, L4, L5, L6, L7, L8⟩ := lexS_line hl hk0 hk1
  unfold rdSt at h ⊢
  cases ho : opO a.nm with
  | none => rw [ho] at h; exact absurd (show (2 : Nat) = 0 from h) (by decide)
  | some o =>
    rw [ho] at h
    simp only [Option.elim_some] at h ⊢
    obtain ⟨hz, hend⟩ := fnF_0 h
    have hrok : roleOk o.1 = true := by
      unfold opO at ho
      cases hopk : opk a.nm with
      | none => rw [hopk] at ho; cases ho
      | some x => rw [hopk] at ho; cases ho; exact (od_ok _ _).2
    have hsuf := stm_suf (η := ηK X (LbE E)) (lo := loR X (LbE E)) (tk := tkA X (LbE E)) (o := o) (ts := r) hz
    -- the tokens that are left begin in the same line
    have run : ∀ (pre ts rest : List AT) (q : Nat), lexS X q = ts → ts = pre ++ rest → (∀ x ∈ pre, x.k ≠ 0 ∧ x.k ≠ 1) → q ≤ X.length → ∃ q2, lexS X q2 = rest ∧ q + pre.length ≤ q2 ∧ q2 ≤ X.length ∧ lend (tw X) X.length q2 = lend (tw X) X.length q ∧ ∀ x ∈ pre, AT.p x < q2 := by
      intro pre
      induction pre with
      | nil => intro ts rest q h1 h2 _ hq; exact ⟨q, by rw [h1, h2]; rfl, by simp, hq, rfl, fun x hx => absurd hx (by simp)⟩
      | cons b pre ih =>
        intro ts rest q h1 h2 h3 hq
        rw [h2] at h1
        obtain ⟨b0, b1⟩ := h3 b List.mem_cons_self
        obtain ⟨N1, N2, N3, N4, N5, N6, N7, N8⟩ := lexS_line h1 b0 b1
        obtain ⟨q2, g1, g2, g3, g4, g5⟩ := ih _ rest b.e N6.symm rfl (fun x hx => h3 x (List.mem_cons_of_mem _ hx)) (by omega)
        refine ⟨q2, g1, by simp only [List.length_cons]; omega, g3, by rw [g4, N1], fun x hx => ?_⟩
        rcases List.mem_cons.mp hx with e | e
        · rw [e]; omega
        · exact g5 x e
    obtain ⟨pre, hp1, hp2, hp3⟩ := hsuf
    obtain ⟨q2, g1, g2, g3, g4, g5⟩ := run pre r _ a.e L6.symm hp1 hp3 (by omega)
    have hSt : WfP X E (5, a.p, ln, sec, 0, (stK X (LbE E) o r).2.1) := by
      obtain ⟨lev, s1, s2⟩ := st_lev0 (η := ηK X (LbE E)) (lo := loR X (LbE E)) (tk := tkA X (LbE E)) (o := o) (ts := r)
      exact ⟨hB, by show a.p < X.length; omega, hsec, hln.symm, fun _ => ⟨a, r, o, lev, hl, rfl, hk, ho, hz, s1, s2⟩, fun z => absurd rfl z, fun z => absurd (show 5 < 3 from z) (by omega), Or.inr (Or.inr (Or.inr rfl)), fun z => by rcases z with z | z <;> exact absurd (show (5 : Nat) = _ from z) (by omega)⟩
    refine ⟨?_, ?_, q2, g1, hend, ?_, by omega, g3, by rw [g4, L1]⟩
    · unfold evS
      by_cases c1 : o.1 = 1 ∨ o.1 = 2
      · rw [if_pos c1]
        show WfE X (E ++ if (if o.1 = 2 then 1 else 0) = sec then [(5, a.p, ln, sec, 0, [])] else [])
        by_cases hs2 : (if o.1 = 2 then 1 else 0) = sec
        · rw [if_pos hs2]
          have e0 : (stK X (LbE E) o r).2.1 = [] := stm_123 _ _ _ _ _ (by rcases c1 with z | z <;> simp [z])
          rw [e0] at hSt
          exact WfE_snoc hW hSt
        · rw [if_neg hs2, List.append_nil]; exact hW
      · rw [if_neg c1]
        by_cases c3 : o.1 = 3
        · rw [if_pos c3]
          show WfE X (E ++ ([(5, a.p, ln, sec, 0, [])] ++ [(2, (eqK X (LbE E) r).2.1.p, ln, sec, (eqK X (LbE E) r).2.2.1, [])]))
          rw [← List.append_assoc]
          have e0 : (stK X (LbE E) o r).2.1 = [] := stm_123 _ _ _ _ _ (Or.inr (Or.inr c3))
          rw [e0] at hSt
          refine WfE_snoc (WfE_snoc hW hSt) ?_
          have hz3 : (eqK X (LbE E) r).1 = 0 := by
            have := hz
            change (stm _ _ _ _ _).1 = 0 at this
            unfold stm at this
            rw [if_neg c1, if_pos c3] at this
            exact this
          obtain ⟨p1, p2, r', p3⟩ := eqT_p (q := a.e) L6.symm hz3
          have htk : tkA X (LbE E) (eqK X (LbE E) r).2.1.nm = false := by
            have hz4 := hz3
            rw [p3] at hz4
            show tkA X (LbE E) _ = _
            cases ht : tkA X (LbE E) (eqK X (LbE E) r).2.1.nm with
            | false => rfl
            | true =>
              exfalso
              generalize hg : (eqK X (LbE E) r).2.1 = b at p2 ht hz4
              have : (eqT (ηK X (LbE E)) (loR X (LbE E)) (tkA X (LbE E)) (b :: r')).1 = 4 := by
                unfold eqT
                have : tk1 2 (b :: r') = some (b, r') := by show (if b.k = 2 then some (b, r') else none) = _; rw [if_pos p2]
                rw [this]
                simp only []
                rw [if_pos ht]
              rw [this] at hz4
              exact absurd hz4 (by decide)
          generalize hg : (eqK X (LbE E) r).2.1 = b at p1 p2 p3 htk ⊢
          have hlb : lexS X a.e = b :: r' := by rw [← L6, p3]
          obtain ⟨N1, N2, N3, N4, N5, N6, N7, N8⟩ := lexS_line hlb (by rw [p2]; decide) (by rw [p2]; decide)
          have hlbl : LbE (E ++ [(5, a.p, ln, sec, 0, [])]) = LbE E := by rw [LbE_snoc, if_neg (show ¬ (5 < 5) by omega), List.append_nil]
          refine ⟨Bel_snoc (q := b.p) (hB.le (by omega)) (show a.p < b.p by omega), p1, hsec, ?_, fun z => absurd (show (2 : Nat) = 5 from z) (by omega), fun _ => rfl, fun _ => ?_, Or.inl rfl, fun z => by rcases z with z | z <;> exact absurd (show (2 : Nat) = _ from z) (by omega)⟩
          · show ln = nlc X b.p + 1
            rw [nlc_line (q := a.p) (by omega) (by rw [← L1, ← N2]; exact lend_ge _ _ _)]
            exact hln.symm
          · show tkA X (LbE (E ++ [(5, a.p, ln, sec, 0, [])])) (nmAt X b.p) = false
            rw [hlbl, ← (lexS_2 hlb p2).1]
            exact htk
        · rw [if_neg c3]
          exact WfE_snoc hW hSt
    · rw [evS_sec]; (split; omega; split <;> omega)
    · unfold evS
      by_cases c1 : o.1 = 1 ∨ o.1 = 2
      · rw [if_pos c1]
        show Bel (E ++ if (if o.1 = 2 then 1 else 0) = sec then [(5, a.p, ln, sec, 0, [])] else []) q2
        by_cases hs2 : (if o.1 = 2 then 1 else 0) = sec
        · rw [if_pos hs2]; exact Bel_snoc (hB.le (by omega)) (show a.p < q2 by omega)
        · rw [if_neg hs2, List.append_nil]; exact hB.le (by omega)
      · rw [if_neg c1]
        by_cases c3 : o.1 = 3
        · rw [if_pos c3]
          show Bel (E ++ ([(5, a.p, ln, sec, 0, [])] ++ [(2, (eqK X (LbE E) r).2.1.p, ln, sec, (eqK X (LbE E) r).2.2.1, [])])) q2
          rw [← List.append_assoc]
          have hz3 : (eqK X (LbE E) r).1 = 0 := by
            have := hz
            change (stm _ _ _ _ _).1 = 0 at this
            unfold stm at this
            rw [if_neg c1, if_pos c3] at this
            exact this
          obtain ⟨p1, p2, r', p3⟩ := eqT_p (q := a.e) L6.symm hz3
          refine Bel_snoc (Bel_snoc (hB.le (by omega)) (by show a.p < q2; omega)) ?_
          show (eqK X (LbE E) r).2.1.p < q2
          -- the constant's name lies ahead of what is left
          have hmn : 1 ≤ pre.length := by
            have : mnT o = 1 := by unfold mnT; rw [if_neg c1, if_neg (by rw [c3]; decide)]
            rw [if_pos hrok, this] at hp2
            exact hp2
          refine g5 _ ?_
          match pre, hp1, hmn with
          | b :: pre', hp1, hmn =>
            rw [p3, List.cons_append] at hp1
            injection hp1 with e1 e2
            rw [e1]
            exact List.mem_cons_self
        · rw [if_neg c3]
          exact Bel_snoc (hB.le (by omega)) (by show a.p < q2; omega)
theorem rdAll_wf {X : List Int32} : ∀ (n : Nat) (ts : List AT) (E : List Ev) (sec ln q : Nat), lexS X q = ts → WfE X E → Bel E q → nlc X q + 1 = ln → q ≤ X.length → sec < 2 → (rdAll X n ts sec ln E).1 = 0 → WfE X (rdAll X n ts sec ln E).2.2
  | 0, ts, E, sec, ln, q, _, hW, _, _, _, _, _ => hW
  | n + 1, ts, E, sec, ln, q, hl, hW, hB, hln, hq, hsec, h => by
    rw [rdAll] at h ⊢
    by_cases hf : (rdLine X sec ln ts E).1 ≠ 0
    · rw [if_pos hf] at h; exact absurd h hf
    rw [if_neg hf] at h ⊢
    have hf0 := Decidable.not_not.mp hf
    have key : WfE X (rdLine X sec ln ts E).2.1 ∧ (rdLine X sec ln ts E).2.2.1 < 2 ∧ ∃ q2, lexS X q2 = (rdLine X sec ln ts E).2.2.2 ∧ atE (rdLine X sec ln ts E).2.2.2 = true ∧ Bel (rdLine X sec ln ts E).2.1 q2 ∧ q ≤ q2 ∧ q2 ≤ X.length ∧ lend (tw X) X.length q2 = lend (tw X) X.length q := by
      unfold rdLine at hf0 ⊢
      by_cases hz : (rdLab X sec ln ts.length ts E).1 ≠ 0
      · rw [if_pos hz] at hf0; exact absurd hf0 hz
      rw [if_neg hz] at hf0 ⊢
      obtain ⟨w1, w2, w3⟩ := rdLab_wf hsec ts.length ts E q hl hW hB hln hq (Decidable.not_not.mp hz)
      generalize rdLab X sec ln ts.length ts E = t at *
      cases hm : t.2.1 with
      | none =>
        simp only [Option.elim_none]
        obtain ⟨q2, j1, j2, j3, j4, j5, j6⟩ := w3 hm
        exact ⟨w1, hsec, q2, j1, j2, j3, j4, j5, j6⟩
      | some a =>
        rw [hm] at hf0
        simp only [Option.elim_some] at hf0 ⊢
        obtain ⟨j1, j2, j3, j4, j5⟩ := w2 a hm
        have hpn : nlc X a.p + 1 = ln := by rw [nlc_line (q := q) j4 (by rw [← j5]; exact lend_ge _ _ _)]; exact hln
        obtain ⟨i1, i2, q2, i3, i4, i5, i6, i7, i8⟩ := rdSt_wf hsec j2 j1 w1 j3 hpn hf0
        exact ⟨i1, i2, q2, i3, i4, i5, by omega, i7, i8.trans j5⟩
    obtain ⟨k1, k2, q2, k3, k4, k5, k6, k7, k8⟩ := key
    generalize rdLine X sec ln ts E = t at *
    by_cases ht : t.2.2.2.tail = []
    · rw [if_pos ht]; exact k1
    rw [if_neg ht] at h ⊢
    obtain ⟨a0, r0, er⟩ := lexS_ne X q2
    have er2 : t.2.2.2 = a0 :: r0 := k3.symm.trans er
    have hk0 : a0.k = 0 := by rw [er2] at k4; exact of_decide_eq_true k4
    have hl2 : lexS X (skipB (tw X) X.length q2) = a0 :: r0 := by rw [← lexS_skip]; exact er
    obtain ⟨n1, n2, n3⟩ := end_nl hl2 hk0 (skipB_id _ _ _).symm (skipB_le _ _ _ k7)
    rw [lend_skip] at n1 n2 n3
    have hle := lend_le (tw X) X.length q2 k7
    have hlt : lend (tw X) X.length q2 < X.length := by
      rcases Nat.lt_or_ge (lend (tw X) X.length q2) X.length with z | z
      · exact z
      · exfalso
        apply ht
        rw [er2]
        exact n1 (by omega)
    have e2 := n2 hlt
    rw [er2] at h ⊢
    have hge := lend_ge (tw X) X.length q2
    refine rdAll_wf n r0 _ _ _ (lend (tw X) X.length q2 + 1) e2.symm k1 (k5.le (by omega)) ?_ (by omega) k2 h
    rw [nlc_next k7 hlt, nlc_line k6 (by rw [← k8]; exact hge)]
    omega
