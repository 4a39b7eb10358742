/-! ===== the reference's joins are the class's steps ===== -/
theorem isB2_of {s : Int32} (h1 : 0 < levN s) (h2 : levN s ≠ 7) (h3 : okS s) : isB2 s = true := by
  have : levN s ≤ 7 := by
    rcases h3 with h | h | h | h | h | h | h | h | h | h | h | h | h | h | h <;> subst h <;> decide
  simp [isB2]; omega
theorem two_of {V : List Int32} {k : Nat} (h : V.length = 1 + (1 + k)) : ∃ b a W, V = b :: a :: W ∧ W.length = k := by
  match V, h with
  | b :: a :: W, h => exact ⟨b, a, W, rfl, by simp at h; omega⟩
  | [x], h => exact absurd h (by simp)
  | [], h => exact absurd h (by simp; omega)
theorem PS.top {σ : MS} {s : Int32} {S V : List Int32} (h : PS σ (s :: S) V) : σ.1 27 - 1 = nI S.length ∧ σ.2 7 S.length = s ∧ S.length < 4100 := by
  obtain ⟨h1, h2, h3, h4, h5⟩ := h
  simp only [List.length_cons] at h1 h3 h4
  exact ⟨by rw [h1]; exact nI_pred _, by have := h4 0 (by omega); simpa using this, by omega⟩
theorem PS.pos {σ : MS} {s : Int32} {S V : List Int32} (h : PS σ (s :: S) V) : ¬ σ.1 27 ≤ 0 := by
  have h3 := h.2.2.1
  rw [h.1]
  simp only [List.length_cons] at h3 ⊢
  rw [show (0 : Int32) = nI 0 from rfl, nI_leI (by omega) (by omega)]
  omega
theorem nB_cons {s : Int32} {S : List Int32} (h : isB2 s = true) : nB (s :: S) = 1 + nB S := by
  simp [nB, h]; omega
theorem nB_skip {s : Int32} {S : List Int32} (h : isB2 s = false) : nB (s :: S) = nB S := by
  simp [nB, h]
/-- the state of the pile beside the class's signs S and steps R, where a value stands on top and no unary sign does -/
def J (η : Int32 → AT → Int32 × Bool) (σ : MS) (S : List Int32) (R : List XSt) (m d : Bool) : Prop :=
  ∃ V, PS σ (S.map sg) V ∧ evR η R = (V, m, d) ∧ σ.1 25 = b2 d ∧ V.length = 1 + nB S ∧ WFs S ∧ (∀ t, S.head? = some t → levN t ≠ 7)
theorem J.step {η : Int32 → AT → Int32 × Bool} {σ : MS} {s : Int32} {S : List Int32} {R : List XSt} {m d : Bool} (h : J η σ (s :: S) R m d) (hb : isB2 s = true) : ∃ σ' d', M_join σ = some (0, σ') ∧ J η σ' S (R ++ [(s, nilA)]) m d' ∧ FX σ σ' := by
  obtain ⟨V, h1, h2, h3, h4, h5, h6⟩ := h
  rw [nB_cons hb] at h4
  obtain ⟨b, a, W, rfl, hW⟩ := two_of h4
  obtain ⟨σ', a1, a2, a3, a4⟩ := M_join_eq h1 h3
  exact ⟨σ', _, a1, ⟨_, a2, ev_join η h5.1 hb h2, a4, by simp [hW]; omega, h5.2.2, h5.2.1 hb⟩, a3⟩
theorem run129 {η : Int32 → AT → Int32 × Bool} {N : Nat} {rec : Int32 → Int32 → Int32 → MS → Option (Int32 × MS)} {x1 x3 : Int32} {l : Nat} (hl : 1 ≤ l) (hl7 : l < 7) {m : Bool} : ∀ (S : List Int32) (n : Nat) (R : List XSt) (d : Bool) (σ : MS), J η σ S R m d → rnk (σ.1 10) = l → S.length < n → ∃ σ' d', M_expression_129 N rec n x1 x3 σ = M_expression_167 N rec x1 x3 σ' ∧ J η σ' (stl l S R).1 (stl l S R).2 m d' ∧ FX σ σ' ∧ (∀ t, (stl l S R).1.head? = some t → levN t < l) ∧ (stl l S R).1.length + (stl l S R).2.length = S.length + R.length
  | [], n, R, d, σ, h, hr, hn => by
    obtain ⟨n', rfl⟩ : ∃ n', n = n' + 1 := ⟨n - 1, by simp at hn; omega⟩
    refine ⟨σ, d, ?_, h, FX.rf σ, (fun t z => by cases z), rfl⟩
    rw [M_expression_129]
    obtain ⟨V, h1, -⟩ := h
    show (if σ.1 27 ≤ 0 then _ else _) = _
    rw [h1.1]
    exact if_pos (by decide)
  | s :: S, n, R, d, σ, h, hr, hn => by
    obtain ⟨n', rfl⟩ : ∃ n', n = n' + 1 := ⟨n - 1, by simp at hn; omega⟩
    have h0 := h
    obtain ⟨V, h1, h2, h3, h4, h5, h6⟩ := h
    have hs := h5.1
    have h7 : levN s ≠ 7 := h6 s rfl
    obtain ⟨t1, t2, t3⟩ := PS.top h1
    rw [List.length_map] at t1 t2 t3
    have fr := (okS_facts hs).1
    rw [if_neg h7] at fr
    have hle : levN s ≤ 7 := by
      have := hs
      rcases this with h | h | h | h | h | h | h | h | h | h | h | h | h | h | h <;> subst h <;> decide
    have expand : M_expression_129 N rec (n' + 1) x1 x3 σ = if nI (levN s) < nI l then M_expression_167 N rec x1 x3 σ else cl (M_join σ) (fun r4 σ5 => (M_expression_129 N rec n') x1 x3 σ5) := by
      rw [M_expression_129]
      show (if σ.1 27 ≤ 0 then _ else _) = _
      rw [if_neg (PS.pos h1), t1, gd_t (inB_nI t3 (by omega)), nI_clamp (by omega), t2, M_rank_eq, M_rank_eq, fr, hr]
      rfl
    by_cases c : levN s < l
    · refine ⟨σ, d, ?_, ?_, FX.rf σ, ?_, ?_⟩
      · rw [expand, if_pos ((nI_ltI (by omega) (by omega)).mpr c)]
      · simp only [stl, if_pos c]; exact h0
      · simp only [stl, if_pos c]; intro t z; cases z; exact c
      · simp only [stl, if_pos c]
    · have hb : isB2 s = true := isB2_of (by omega) h7 hs
      obtain ⟨σ1, d1, a1, a2, a3⟩ := J.step h0 hb
      have hr1 : rnk (σ1.1 10) = l := by rw [a3.1 10 (by decide) (by decide) (by decide)]; exact hr
      obtain ⟨σ', d', b1, b2', b3, b4, b5⟩ := run129 hl hl7 S n' (R ++ [(s, nilA)]) d1 σ1 a2 hr1 (by simp at hn; omega)
      refine ⟨σ', d', ?_, ?_, a3.tr b3, ?_, ?_⟩
      · rw [expand, if_neg (by rw [nI_ltI (by omega) (by omega)]; omega), a1]
        simp only [cl, Option.bind_some]
        exact b1
      · simp only [stl, if_neg c]; exact b2'
      · simp only [stl, if_neg c]; exact b4
      · simp only [stl, if_neg c]; rw [b5]; simp; omega
/-- back to the open bracket -/
theorem run193 {η : Int32 → AT → Int32 × Bool} {N : Nat} {rec : Int32 → Int32 → Int32 → MS → Option (Int32 × MS)} {x1 x2 x3 : Int32} {m : Bool} (hN : 4200 < N) : ∀ (S : List Int32) (n : Nat) (R : List XSt) (d : Bool) (σ : MS), J η σ S R m d → 40 ∈ S → S.length < n → ∃ σ' d' S2 R', stl 1 S R = (40 :: S2, R') ∧ M_expression_193 N rec n x1 x2 x3 σ = M_expression_252 N rec (x1 + (-1)) x2 x3 σ' ∧ WFs S2 ∧ (∃ v W, evR η R' = (v :: W, m, d') ∧ PS σ' ((restU S2).map sg) (apU (S2.map sg) v :: W) ∧ W.length = nB S2) ∧ σ'.1 25 = b2 d' ∧ FX σ σ' ∧ S2.length + R'.length + 1 = S.length + R.length
  | [], n, R, d, σ, h, hm, hn => absurd hm List.not_mem_nil
  | s :: S, n, R, d, σ, h, hm, hn => by
    obtain ⟨n', rfl⟩ : ∃ n', n = n' + 1 := ⟨n - 1, by simp at hn; omega⟩
    have h0 := h
    obtain ⟨V, h1, h2, h3, h4, h5, h6⟩ := h
    have hs := h5.1
    have h7 : levN s ≠ 7 := h6 s rfl
    obtain ⟨t1, t2, t3⟩ := PS.top h1
    rw [List.length_map] at t1 t2 t3
    have f3 := (okS_facts hs).2.2.1
    have f4 := (okS_facts hs).2.2.2
    have expand : M_expression_193 N rec (n' + 1) x1 x2 x3 σ = if sg s = 1 then bnd (sF σ 27 (σ.1 27 - 1)) (fun σ2 => cl (M_bind N σ2) (fun r3 σ4 => M_expression_252 N rec (x1 + (-1 : Int32)) x2 x3 σ4)) else cl (M_join σ) (fun r5 σ6 => (M_expression_193 N rec n') x1 x2 x3 σ6) := by
      rw [M_expression_193]
      show gd (inB (σ.1 27 - 1) 4100) _ = _
      rw [t1, gd_t (inB_nI t3 (by omega)), nI_clamp (by omega), t2]
    by_cases c : s = 40
    · subst c
      have hnb : nB (40 :: S) = nB S := nB_skip (by decide)
      rw [hnb] at h4
      obtain ⟨v, W, rfl, hW⟩ : ∃ v W, V = v :: W ∧ W.length = nB S := by
        cases V with
        | nil => simp at h4; omega
        | cons v W => exact ⟨v, W, rfl, by simp at h4; omega⟩
      have hps : PS (sF σ 27 (nI S.length)) (S.map sg) (v :: W) := by
        obtain ⟨p1, p2, p3, p4, p5⟩ := h1
        simp only [List.length_cons, List.length_map, List.map_cons] at p1 p2 p3 p4 p5
        refine ⟨by rw [sF_at, List.length_map], by rw [sF_ne _ _ (by decide)]; exact p2, by simp; omega, ?_, p5⟩
        intro i hi
        rw [List.length_map] at hi ⊢
        have := p4 (i + 1) (by omega)
        rw [show S.length + 1 - 1 - (i + 1) = S.length - 1 - i by omega] at this
        exact this
      obtain ⟨σ', a1, a2, a3, a4⟩ := M_bind_eq (N := N) N (S.map sg) W v (sF σ 27 (nI S.length)) hps (by rw [List.length_map]; omega)
      refine ⟨σ', d, S, R, ?_, ?_, h5.2.2, ⟨v, W, h2, ?_, hW⟩, ?_, ?_, by simp; omega⟩
      · simp only [stl]; rw [if_pos (by decide)]
      · rw [expand, if_pos (by decide), t1]
        simp only [bnd]
        unfold M_bind
        rw [a1]
        rfl
      · rw [← restU_drU S h5.2.2]; exact a2
      · rw [a4, sF_ne _ _ (by decide)]; exact h3
      · refine FX.tr ⟨fun j x y z => sF_ne _ _ y, fun k hk => rfl⟩ a3
    · have hl0 : 0 < levN s := Nat.pos_of_ne_zero (fun z => c (f4.mp z))
      have hb : isB2 s = true := isB2_of hl0 h7 hs
      obtain ⟨σ1, d1, a1, a2, a3⟩ := J.step h0 hb
      have hm' : (40 : Int32) ∈ S := by
        rcases List.mem_cons.mp hm with h | h
        · exact absurd h.symm c
        · exact h
      obtain ⟨σ', d', S2, R', b1, b2', b3, b4, b5, b6, b7⟩ := run193 hN S n' (R ++ [(s, nilA)]) d1 σ1 a2 hm' (by simp at hn; omega)
      refine ⟨σ', d', S2, R', ?_, ?_, b3, b4, b5, a3.tr b6, by rw [b7]; simp; omega⟩
      · simp only [stl]; rw [if_neg (by omega)]; exact b1
      · rw [expand, if_neg (fun z => c (f3.mp z)), a1]
        simp only [cl, Option.bind_some]
        exact b2'
/-- at the end: all signs are joined -/
theorem run255 {η : Int32 → AT → Int32 × Bool} {N : Nat} {m : Bool} : ∀ (S : List Int32) (n : Nat) (R : List XSt) (d : Bool) (σ : MS), J η σ S R m d → 40 ∉ S → S.length < n → σ.1 14 = 0 → ∃ σ' d' v R', stl 1 S R = ([], R') ∧ M_expression_255 N n σ = M_expression_276 N σ' ∧ evR η R' = ([v], m, d') ∧ PS σ' [] [v] ∧ σ'.1 25 = b2 d' ∧ FX σ σ'
  | [], n, R, d, σ, h, hm, hn, hf => by
    obtain ⟨n', rfl⟩ : ∃ n', n = n' + 1 := ⟨n - 1, by simp at hn; omega⟩
    obtain ⟨V, h1, h2, h3, h4, h5, h6⟩ := h
    obtain ⟨v, rfl⟩ : ∃ v, V = [v] := by
      cases V with
      | nil => simp [nB] at h4
      | cons v W =>
        cases W with
        | nil => exact ⟨v, rfl⟩
        | cons x W => simp [nB] at h4
    refine ⟨σ, d, v, R, rfl, ?_, h2, h1, h3, FX.rf σ⟩
    rw [M_expression_255]
    show (if σ.1 27 ≤ 0 then _ else _) = _
    rw [h1.1]
    exact if_pos (by decide)
  | s :: S, n, R, d, σ, h, hm, hn, hf => by
    obtain ⟨n', rfl⟩ : ∃ n', n = n' + 1 := ⟨n - 1, by simp at hn; omega⟩
    have h0 := h
    obtain ⟨V, h1, h2, h3, h4, h5, h6⟩ := h
    have f4 := (okS_facts h5.1).2.2.2
    have c : s ≠ 40 := fun z => hm (by rw [z]; exact List.mem_cons_self)
    have hl0 : 0 < levN s := Nat.pos_of_ne_zero (fun z => c (f4.mp z))
    have hb : isB2 s = true := isB2_of hl0 (h6 s rfl) h5.1
    obtain ⟨σ1, d1, a1, a2, a3⟩ := J.step h0 hb
    obtain ⟨σ', d', v, R', b1, b2', b3, b4, b5, b6⟩ := run255 S n' (R ++ [(s, nilA)]) d1 σ1 a2 (fun z => hm (List.mem_cons_of_mem _ z)) (by simp at hn; omega) (by rw [a3.1 14 (by decide) (by decide) (by decide)]; exact hf)
    refine ⟨σ', d', v, R', ?_, ?_, b3, b4, b5, a3.tr b6⟩
    · simp only [stl]; rw [if_neg (by omega)]; exact b1
    · rw [M_expression_255]
      show (if σ.1 27 ≤ 0 then _ else _) = _
      rw [if_neg (PS.pos h1), if_pos hf, a1]
      simp only [cl, Option.bind_some]
      exact b2'
