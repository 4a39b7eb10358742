/-! ===== the items of a statement: three kinds; how long they are ===== -/
theorem opO_tbl {nm : List Int32} {o : OD} (h : opO nm = some o) : ∃ k o', k < 128 ∧ o = od (M_shapes k) (M_patterns k ||| o') ∧ (o' = 0 ∨ ((M_shapes k = 9 ∨ M_shapes k = 10) ∧ o' ∈ ([100663296, 67108864, 33554432] : List Int32))) := by
  unfold opO at h
  cases hk : opk nm with
  | none => rw [hk] at h; cases h
  | some x =>
    rw [hk] at h
    cases h
    refine ⟨x.1, x.2, ?_, rfl, ?_⟩
    · unfold opk at hk
      cases hn : nmd (pk nm) with
      | some k' =>
        rw [hn] at hk
        simp only [Option.some.injEq] at hk
        rw [← hk]
        exact (by have := nmdA_lt _ 128 0 k' hn; omega)
      | none =>
        rw [hn] at hk
        simp only [] at hk
        split at hk
        · cases hk
        · cases hn2 : nmd (pk (nm.take (nm.length - sfx nm))) with
          | none => rw [hn2] at hk; cases hk
          | some k2 =>
            rw [hn2] at hk
            simp only [] at hk
            split at hk
            · simp only [Option.some.injEq] at hk
              rw [← hk]
              exact (by have := nmdA_lt _ 128 0 k2 hn2; omega)
            · cases hk
    · unfold opk at hk
      cases hn : nmd (pk nm) with
      | some k' =>
        rw [hn] at hk
        simp only [Option.some.injEq] at hk
        left; rw [← hk]
      | none =>
        rw [hn] at hk
        simp only [] at hk
        split at hk
        · cases hk
        · cases hn2 : nmd (pk (nm.take (nm.length - sfx nm))) with
          | none => rw [hn2] at hk; cases hk
          | some k2 =>
            rw [hn2] at hk
            simp only [] at hk
            split at hk
            · rename_i h9
              simp only [Option.some.injEq] at hk
              right
              rw [← hk]
              refine ⟨h9, ?_⟩
              show (if sfx nm = 5 then (100663296 : Int32) else if nm.getD (nm.length - 1) 0 = 113 then 67108864 else 33554432) ∈ _
              split
              · decide
              · split <;> decide
            · cases hk
theorem od_4tbl : ∀ k, k < 128 → (od (M_shapes k) (M_patterns k ||| 0)).1 = 4 → (od (M_shapes k) (M_patterns k ||| 0)).2.2 = 1 ∨ (od (M_shapes k) (M_patterns k ||| 0)).2.2 = 2 ∨ (od (M_shapes k) (M_patterns k ||| 0)).2.2 = 4 := by decide +kernel
theorem od_910 (w : Int32) : (od 9 w).1 = 0 ∧ (od 10 w).1 = 0 := ⟨rfl, rfl⟩
/-- what is known of an operation -/
theorem opO_ok {nm : List Int32} {o : OD} (h : opO nm = some o) : oneX o.2.1 = true ∧ roleOk o.1 = true ∧ (o.1 = 5 → o.2.2 = 0 ∨ o.2.2 = 1) ∧ (o.1 = 4 → o.2.2 = 1 ∨ o.2.2 = 2 ∨ o.2.2 = 4) := by
  obtain ⟨k, o', hk, rfl, ho⟩ := opO_tbl h
  refine ⟨(od_ok _ _).1, (od_ok _ _).2, od5 _ _, ?_⟩
  rcases ho with rfl | ⟨h9, -⟩
  · exact od_4tbl k hk
  · intro z
    rcases h9 with e | e
    · rw [e] at z; rw [(od_910 _).1] at z; exact absurd z (by decide)
    · rw [e] at z; rw [(od_910 _).2] at z; exact absurd z (by decide)
theorem nmT_cnt : ∀ (n : Nat) (ts : List AT), (nmT n ts).1 = 0 → (nmT n ts).2.1.length ≤ n
  | 0, ts, h => absurd (show (1 : Nat) = 0 from h) (by decide)
  | n + 1, ts, h => by
    rw [nmT] at h ⊢
    cases hc : cmpT ts with
    | none => rw [hc] at h; exact absurd (show (1 : Nat) = 0 from h) (by decide)
    | some x =>
      rw [hc] at h
      simp only [] at h ⊢
      by_cases hE : atE x.2 = true
      · rw [if_pos hE]; show 1 ≤ n + 1; omega
      · rw [if_neg hE] at h ⊢
        cases ht : tk1 44 x.2 with
        | none => rw [ht] at h; exact absurd (show (1 : Nat) = 0 from h) (by decide)
        | some y =>
          rw [ht] at h
          simp only [] at h ⊢
          have := nmT_cnt n y.2 h
          simp only [List.length_cons]
          omega
/-- strings lie in the text -/
theorem stT_sum {X : List Int32} : ∀ (n : Nat) (ts : List AT) (q : Nat), lexS X q = ts → q ≤ X.length → (stT n ts).1 = 0 → ((stT n ts).2.1.map (fun s => s.length + 2)).sum ≤ X.length - q
  | 0, ts, q, _, _, h => absurd (show (1 : Nat) = 0 from h) (by decide)
  | n + 1, ts, q, hl, hq, h => by
    rw [stT] at h ⊢
    cases hc : tk1 6 ts with
    | none => rw [hc] at h; exact absurd (show (1 : Nat) = 0 from h) (by decide)
    | some x =>
      rw [hc] at h
      simp only [] at h ⊢
      obtain ⟨e1, e2⟩ := tk1_some (a := x.1) (r := x.2) hc
      rw [e1] at hl
      have h6 := lexS_6 hl e2
      obtain ⟨L1, L2, L3, L4, L5, L6, L7, L8⟩ := lexS_line hl (by rw [e2]; decide) (by rw [e2]; decide)
      have hs := strS_e (tw X) X.length _ _ (Nat.le_refl _) _ _ h6.1
      have hb : x.1.s.length + 2 ≤ x.1.e - q := by omega
      by_cases hE : atE x.2 = true
      · rw [if_pos hE]
        show (x.1.s.length + 2) + 0 ≤ _
        omega
      · rw [if_neg hE] at h ⊢
        cases ht : tk1 44 x.2 with
        | none => rw [ht] at h; exact absurd (show (1 : Nat) = 0 from h) (by decide)
        | some y =>
          rw [ht] at h
          simp only [] at h ⊢
          obtain ⟨f1, f2⟩ := tk1_some (a := y.1) (r := y.2) ht
          rw [L6] at f1
          obtain ⟨M1, M2, M3, M4, M5, M6, M7, M8⟩ := lexS_line f1 (by rw [f2]; decide) (by rw [f2]; decide)
          have := stT_sum n y.2 y.1.e M6.symm (by omega) h
          simp only [List.map_cons, List.sum_cons]
          omega
theorem ilens_cons (i : AI) (r : List AI) : ilens (i :: r) = i.2.2.1 + ilens r := by
  unfold ilens
  simp only [List.map_cons, List.sum_cons]
theorem ilens_const (n : Nat) (Rs : List (List XSt)) : ilens (Rs.map (fun R => ((61 : Int32), (0 : Int32), n, R, ([] : List Int32)))) = n * Rs.length := by
  induction Rs with
  | nil => rfl
  | cons R r ih =>
    rw [List.map_cons, ilens_cons, ih, List.length_cons, Nat.mul_succ]
    show n + n * r.length = _
    omega
theorem ilens_str (z : Nat) (hz : z ≤ 1) (Ss : List (List Int32)) : ilens (Ss.map (fun s => ((4 : Int32), (0 : Int32), s.length + z, ([] : List XSt), s))) ≤ (Ss.map (fun s => s.length + 2)).sum := by
  induction Ss with
  | nil => exact Nat.le_refl _
  | cons s r ih =>
    rw [List.map_cons, ilens_cons, List.map_cons, List.sum_cons]
    show (s.length + z) + _ ≤ _
    omega
/-- items of a statement -/
def SIt (l : List AI) : Prop :=
  ((∀ i ∈ l, i.1 ≠ 3 ∧ isJ i.1 = false) ∧ ilens l ≤ 40000) ∨ (∃ k, k ≤ 10 ∧ l = [(3, nI k, 0, [], [])]) ∨ (∃ mk w lev R, l = [(mk, w, 2 * 2 ^ lev, R, [])] ∧ isJ mk = true ∧ LvR mk w ≤ lev ∧ lev ≤ lvM mk)
theorem len0_le (mk w : Int32) : (len0 mk w).toNatClampNeg ≤ 8 := by
  unfold len0
  split
  · decide
  · split
    · decide
    · split
      · split <;> decide
      · split <;> decide
theorem f1T_rng {η : Int32 → AT → Int32 × Bool} {lo : AT → Bool} {hi : Nat} {ts : List AT} (hh : hi < 2 ^ 31) (h : (f1T η lo 0 (nI hi) ts).1 = 0) : ∃ k, k ≤ hi ∧ (f1T η lo 0 (nI hi) ts).2.1 = nI k := by
  unfold f1T at h ⊢
  cases hc : cmpT ts with
  | none => rw [hc] at h; exact absurd (show (1 : Nat) = 0 from h) (by decide)
  | some z =>
    rw [hc] at h
    simp only [] at h ⊢
    by_cases hf : fxF η lo 0 (nI hi) z.1 ≠ 0
    · rw [if_pos hf] at h; exact absurd h hf
    · rw [if_neg hf]
      exact fx_rng hh (Decidable.not_not.mp hf)
theorem liI_len (b v : Int32) : ∀ l, l = liI b v → ilens (l.map (fun x => ((0 : Int32), x.1, x.2, ([] : List XSt), ([] : List Int32)))) ≤ 8 := by
  intro l hl
  unfold liI at hl
  split at hl
  · subst hl; exact (by decide : (2 : Nat) ≤ 8)
  · split at hl
    · subst hl; exact (by decide : (4 : Nat) ≤ 8)
    · split at hl
      · subst hl; exact (by decide : (4 : Nat) ≤ 8)
      · subst hl; exact (by decide : (8 : Nat) ≤ 8)
theorem stm_SI {X : List Int32} (hX : X.length ≤ 4096) {η : Int32 → AT → Int32 × Bool} {lo : AT → Bool} {tk : List Int32 → Bool} {nm : List Int32} {o : OD} {ts : List AT} {q : Nat} (hl : lexS X q = ts) (hq : q ≤ X.length) (ho : opO nm = some o) (hz : (stm η lo tk o ts).1 = 0) (hnj : ∀ i ∈ (stm η lo tk o ts).2.1, isJ i.1 = false) : ((∀ i ∈ (stm η lo tk o ts).2.1, i.1 ≠ 3 ∧ isJ i.1 = false) ∧ ilens (stm η lo tk o ts).2.1 ≤ 40000) ∨ (∃ k, k ≤ 10 ∧ (stm η lo tk o ts).2.1 = [(3, nI k, 0, [], [])]) := by
  obtain ⟨ok1, ok2, ok5, ok4⟩ := opO_ok ho
  have hlen : ts.length ≤ 4098 := by have := lexS_len X q; rw [hl] at this; omega
  unfold stm at hz hnj ⊢
  by_cases c1 : o.1 = 1 ∨ o.1 = 2
  · left; rw [if_pos c1]; exact ⟨fun i hi => (by cases hi), by show (0 : Nat) ≤ 40000; omega⟩
  rw [if_neg c1] at hz hnj ⊢
  by_cases c3 : o.1 = 3
  · left; rw [if_pos c3]; exact ⟨fun i hi => (by cases hi), by show (0 : Nat) ≤ 40000; omega⟩
  rw [if_neg c3] at hz hnj ⊢
  by_cases c4 : o.1 = 4
  · left
    rw [if_pos c4] at hz ⊢
    refine ⟨fun i hi => ?_, ?_⟩
    · obtain ⟨R, -, rfl⟩ := List.mem_map.mp hi
      exact ⟨by show (61 : Int32) ≠ 3; decide, by show isJ 61 = false; decide⟩
    · show ilens ((nmT ts.length ts).2.1.map _) ≤ _
      rw [ilens_const]
      have h1 := nmT_cnt _ _ hz
      have h2 : o.2.2.toNatClampNeg ≤ 4 := by rcases ok4 c4 with e | e | e <;> rw [e] <;> decide
      have h3 := Nat.mul_le_mul h2 h1
      omega
  rw [if_neg c4] at hz hnj ⊢
  by_cases c5 : o.1 = 5
  · left
    rw [if_pos c5] at hz ⊢
    refine ⟨fun i hi => ?_, ?_⟩
    · obtain ⟨R, -, rfl⟩ := List.mem_map.mp hi
      exact ⟨by show (4 : Int32) ≠ 3; decide, by show isJ 4 = false; decide⟩
    · show ilens ((stT ts.length ts).2.1.map _) ≤ _
      have h2 : o.2.2.toNatClampNeg ≤ 1 := by rcases ok5 c5 with e | e <;> rw [e] <;> decide
      have h1 := ilens_str _ h2 (stT ts.length ts).2.1
      have h3 := stT_sum _ ts q hl hq hz
      omega
  rw [if_neg c5] at hz hnj ⊢
  by_cases c6 : o.1 = 6
  · left
    rw [if_pos c6] at hz ⊢
    obtain ⟨k, k1, k2⟩ := f1T_rng (hi := 32768) (by omega) hz
    refine ⟨fun i hi => ?_, ?_⟩
    · rw [List.mem_singleton.mp hi]
      exact ⟨by show (2 : Int32) ≠ 3; decide, by show isJ 2 = false; decide⟩
    · show (f1T η lo 0 32768 ts).2.1.toNatClampNeg + 0 ≤ 40000
      rw [show (f1T η lo 0 32768 ts).2.1 = nI k from k2, nI_clamp (by omega)]
      omega
  rw [if_neg c6] at hz hnj ⊢
  by_cases c7 : o.1 = 7
  · right
    rw [if_pos c7] at hz ⊢
    obtain ⟨k, k1, k2⟩ := f1T_rng (hi := 10) (by omega) hz
    exact ⟨k, k1, by rw [show (f1T η lo 0 10 ts).2.1 = nI k from k2]⟩
  rw [if_neg c7] at hz hnj ⊢
  by_cases c8 : o.1 = 8
  · left
    rw [if_pos c8]
    refine ⟨fun i hi => ?_, ?_⟩
    · obtain ⟨R, -, rfl⟩ := List.mem_map.mp hi
      exact ⟨by show (0 : Int32) ≠ 3; decide, by show isJ 0 = false; decide⟩
    · have := liI_len _ _ _ (rfl : liI (ldT η lo ts).2.1 (ldT η lo ts).2.2.1 = _)
      show ilens (List.map _ _) ≤ _
      omega
  rw [if_neg c8] at hz hnj ⊢
  left
  have hz' : (srO o ts).1 = 0 := hz
  have hmk := srO_mk (o := o) (ts := ts) ok1 hz'
  have hJf : isJ (srO o ts).2.2.1 = false := hnj _ (List.mem_singleton.mpr rfl)
  refine ⟨fun i hi => ?_, ?_⟩
  · rw [show i = _ from List.mem_singleton.mp hi]
    refine ⟨?_, hJf⟩
    show (srO o ts).2.2.1 ≠ 3
    by_cases c64 : (srO o ts).2.2.1 = 64
    · rw [c64]; decide
    · rcases hmk hJf c64 with ⟨m1, -⟩ | ⟨-, m2⟩
      · rw [m1]; decide
      · intro z; rw [z] at m2; exact absurd m2 (by decide)
  · show (len0 (srO o ts).2.2.1 (srO o ts).2.1).toNatClampNeg + 0 ≤ 40000
    have := len0_le (srO o ts).2.2.1 (srO o ts).2.1
    omega
theorem StW_SI {X : List Int32} (hX : X.length ≤ 4096) {Λ : List Lb} {e : Ev} (hp : e.2.1 < X.length) (h : StW X Λ e) : SIt e.2.2.2.2.2 := by
  obtain ⟨a, r, o, lev, h1, h2, h3, h4, h5, h6, h7⟩ := h
  have hk0 : a.k ≠ 0 := by rw [h3]; decide
  have hk1 : a.k ≠ 1 := by rw [h3]; decide
  obtain ⟨L1, L2, L3, L4, L5, L6, L7, L8⟩ := lexS_line h1 hk0 hk1
  rcases h7 with ⟨i, hi, hJ, hl1, hl2⟩ | ⟨hn, hl0⟩
  · right; right
    obtain ⟨e1, e2, -⟩ := stm_J hi hJ
    rw [h6, e1]
    have hJ' : isJ (srO o r).2.2.1 = true := by rw [e2] at hJ; exact hJ
    refine ⟨(srO o r).2.2.1, (srO o r).2.1, lev, (srO o r).2.2.2.1, ?_, hJ', ?_, ?_⟩
    · unfold sI curL
      simp only [List.map_cons, List.map_nil, hJ', if_true]
    · rw [e2] at hl1; exact hl1
    · rw [e2] at hl2; exact hl2
  · rw [h6, curL_id hn]
    rcases stm_SI hX L6.symm (by omega) h4 h5 hn with z | z
    · exact Or.inl z
    · exact Or.inr (Or.inl z)
