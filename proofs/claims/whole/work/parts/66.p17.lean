theorem fl_ne {ln : Nat} (h : ln < 10000) (k : Nat) (hk : 1 ≤ k ∧ k ≤ 15) : nI (k + 16 * ln) ≠ 0 := by
  intro z
  rw [show (0 : Int32) = nI 0 from rfl, nI_eq (by omega) (by omega)] at z
  omega
theorem fl_val (ln k : Nat) : nI k + 16 * nI ln = nI (k + 16 * ln) := by
  rw [show (16 : Int32) = nI 16 from rfl, show nI 16 * nI ln = nI (16 * ln) from (Int32.ofNat_mul 16 ln).symm, nI_add]
theorem FE.line {σ0 σ : MS} (h : FE σ0 σ) : σ.1 15 = σ0.1 15 := h.1 15 (by omega) (by decide) (by decide) (by decide) (by decide) (by decide)
/-- a fault ends it -/
theorem XB_of {N n : Nat} {X : List Int32} {σ0 σ : MS} {ln : Nat} {x1 x2 x3 : Int32} (hN : 0 < N) (hln : ln < 10000) (hF : FE σ0 σ) (h14 : σ.1 14 = nI (1 + 16 * ln)) (h9 : At9 X σ) : XB X σ0 ln (M_expression_33 N (n + 1) x1 x2 x3 σ) :=
  ⟨0, σ, expr_fault hN (by rw [h14]; exact fl_ne hln 1 (by omega)), h14, hF, h9⟩
theorem SC.pos {X : List Int32} {σ σ' : MS} {q : Nat} {a : AT} (h : SC σ σ' X q a) : At9 X σ' := by
  by_cases k0 : a.k = 0
  · obtain ⟨-, q2, w1, w2, w3, -⟩ := h.2.2.1 k0
    exact ⟨q2, w2, w3⟩
  by_cases k1 : a.k = 1
  · obtain ⟨-, q2, w1, w2, w3⟩ := h.2.2.2.1 k1
    exact ⟨q2, w2, w3⟩
  obtain ⟨v1, v2, v3, v4, v5, v6, v7, v8, v9, -⟩ := h.2.2.2.2 k0 k1
  exact ⟨a.e, v9, v2⟩
theorem At9.eq {X : List Int32} {σ σ' : MS} (h : At9 X σ) (e : σ'.1 9 = σ.1 9) : At9 X σ' := by
  obtain ⟨q, a, b⟩ := h
  exact ⟨q, a, e.trans b⟩
theorem blame1 {σ0 σ : MS} {ln : Nat} (hl : σ0.1 15 = nI ln) (hF : FE σ0 σ) (hf : σ.1 14 = 0) : ∃ σ', M_blame 1 σ = some (0, σ') ∧ σ'.1 14 = nI (1 + 16 * ln) ∧ FE σ0 σ' ∧ (∀ j, j ≠ 14 → σ'.1 j = σ.1 j) ∧ σ'.2 = σ.2 := by
  refine ⟨_, M_blame_eq 1 hf, ?_, FE.sF hF _ (by omega), fun j hj => sF_ne _ _ hj, rfl⟩
  rw [sF_at, FE.line hF, hl]
  exact fl_val ln 1
section
variable {N : Nat} {X : List Int32} {σ0 : MS} {η : Int32 → AT → Int32 × Bool} {lo : AT → Bool} {ln : Nat}
/-- scanning from a state of the loop -/
theorem LI_scan (hN : X.length + 2 < N) (T0 : TX σ0 (tw X) X.length) {σ : MS} {w : Bool} {o q : Nat} {S : List Int32} {R : List XSt} (h : LI X η lo σ0 σ w o q S R) {a : AT} {r : List AT} (hl : lexS X q = a :: r) : ∃ σ1, M_scan N σ = some (0, σ1) ∧ SC σ σ1 X q a ∧ (a.k ≠ 0 → a.k ≠ 1 → r = lexS X a.e) ∧ FE σ0 σ1 ∧ σ1.1 14 = 0 := by
  obtain ⟨h1, h2, h3, h4, -⟩ := h
  obtain ⟨σ1, a1, a2, a3⟩ := M_scanA (FE.tx h3 T0) hN h1 h2 hl
  exact ⟨σ1, a1, a2, a3, h3.sc a2, by rw [a2.1 14 (by decide) (by decide) (by decide) (by decide) (by decide)]; exact h4⟩
/-- the loop, where a value stands and the token ends the expression -/
theorem loop_end (hN : 4200 < N) (hX4 : X.length ≤ 4096) (hln : ln < 10000) (hl : σ0.1 15 = nI ln) {σ σ1 : MS} {o q : Nat} {S : List Int32} {R : List XSt} (h : LI X η lo σ0 σ false o q S R) {a : AT} {r : List AT} (hlx : lexS X q = a :: r) (hsc : SC σ σ1 X q a) (n : Nat) :
    (if 0 < o then XB X σ0 ln (M_expression_235 N (M_expression_33 N (n + 1)) (nI o) 0 (σ.1 9) σ1) else XG X η lo σ0 ln (stl 1 S R).2 (a :: r) (M_expression_235 N (M_expression_33 N (n + 1)) (nI o) 0 (σ.1 9) σ1)) := by
  obtain ⟨h1, h2, h3, h4, h5, h6, h7, m, d, h8, h9, h10, h11⟩ := h
  rw [if_neg (by decide)] at h11
  obtain ⟨v, W, p1, p2, p3⟩ := h11
  have hF1 := h3.sc hsc
  have hf1 : σ1.1 14 = 0 := by rw [hsc.1 14 (by decide) (by decide) (by decide) (by decide) (by decide)]; exact h4
  have hle : c40 S ≤ S.length := List.length_filter_le _ _
  have hX := h1
  by_cases c : 0 < o
  · rw [if_pos c]
    obtain ⟨σ2, b1, b2', b3, b4, b5⟩ := blame1 hl hF1 hf1
    unfold M_expression_235
    rw [if_neg (by rw [show (0 : Int32) = nI 0 from rfl, nI_leI (by omega) (by omega)]; omega), b1]
    simp only [cl, Option.bind_some]
    unfold M_expression_246 M_expression_252
    simp only [bnd]
    exact XB_of (by omega) hln (FE.sF b3 _ (by omega)) (by rw [sF_ne _ _ (by decide)]; exact b2') ⟨q, h1, by rw [sF_at]; exact h2⟩
  · rw [if_neg c]
    have ho : o = 0 := by omega
    subst ho
    unfold M_expression_235
    rw [if_pos (by decide)]
    unfold M_expression_246 M_expression_252
    simp only [bnd]
    have hPs := (p1.sc hsc).sF (j := 9) (σ.1 9) (by decide) (by decide)
    obtain ⟨R', e1, e2, e3⟩ := stl_un η (l := 1) (by omega) S R v W (m, d) h5 p2
    have hJ : J η (sF σ1 9 (σ.1 9)) (restU S) R' m d := ⟨_, hPs, e2, by rw [sF_ne _ _ (by decide), hsc.1 25 (by decide) (by decide) (by decide) (by decide) (by decide)]; exact h9, by rw [nB_restU]; simp [p3]; omega, restU_wf S h5, restU_top S⟩
    have hlen := restU_len S
    have h40 : 40 ∉ restU S := fun z => c40_not h6.symm (restU_sub z)
    obtain ⟨σ', d', v', R2, g1, g2, g3, g4, g5, g6⟩ := run255 (N := N) (restU S) N R' d (sF σ1 9 (σ.1 9)) hJ h40 (by omega) (by rw [sF_ne _ _ (by decide)]; exact hf1)
    have hFe : FE σ0 σ' := (FE.sF hF1 (j := 9) (σ.1 9) (by omega)).fx g6
    have k24 : σ'.1 24 = b2 m := by rw [g6.1 24 (by decide) (by decide) (by decide), sF_ne _ _ (by decide), hsc.1 24 (by decide) (by decide) (by decide) (by decide) (by decide)]; exact h8
    have k26 : σ'.1 26 = b2 ((stl 1 S R).2.any (lz lo)) := by rw [g6.1 26 (by decide) (by decide) (by decide), sF_ne _ _ (by decide), hsc.1 26 (by decide) (by decide) (by decide) (by decide) (by decide), stl_any S R h5]; exact h10
    have k9 : σ'.1 9 = nI q := by rw [g6.1 9 (by decide) (by decide) (by decide), sF_at]; exact h2
    have k14 : σ'.1 14 = 0 := by rw [g6.1 14 (by decide) (by decide) (by decide), sF_ne _ _ (by decide)]; exact hf1
    have k17 : σ'.1 17 = σ0.1 17 := hFe.1 17 (by omega) (by decide) (by decide) (by decide) (by decide) (by decide)
    have k15 : σ'.1 15 = nI ln := by rw [FE.line hFe]; exact hl
    have eR : (stl 1 S R).2 = R2 := by rw [e1, g1]
    have e28 : σ'.1 28 = nI 4099 := g4.2.1
    have eV : σ'.2 7 4099 = v' := by have := g4.2.2.2.2 0 (by simp); simpa using this
    have ex33 : M_expression_33 N (n + 1) (nI 0) 0 0 (sF σ1 9 (σ.1 9)) = M_expression_255 N N (sF σ1 9 (σ.1 9)) := by
      rw [M_expression_33]; exact if_pos rfl
    have e276 : M_expression_276 N σ' = M_expression_296 N v' σ' := by
      unfold M_expression_276
      rw [if_pos k14, e28, gd_t (inB_nI (by omega) (by omega)), nI_clamp (by omega), eV]
    rw [ex33, g2, e276]
    have fin : ∀ τ : MS, M_expression_296 N v' σ' = some (v', τ) → FE σ0 τ → (∀ j, j ≠ 14 → τ.1 j = σ'.1 j) → τ.1 14 = (if σ0.1 17 = 2 ∧ (m || d') = true then nI ((if m = true then 8 else 9) + 16 * ln) else 0) → XG X η lo σ0 ln (stl 1 S R).2 (a :: r) (M_expression_296 N v' σ') := by
      intro τ t1 t2 t3 t4
      exact ⟨v', τ, m, d', q, by rw [eR]; exact g3, t1, t2, t4, by rw [t3 9 (by decide)]; exact k9, hlx, h1, by rw [t3 24 (by decide)]; exact k24, by rw [t3 25 (by decide)]; exact g5, by rw [t3 26 (by decide)]; exact k26⟩
    by_cases hm : σ0.1 17 = 2
    · cases hmm : m with
      | true =>
        subst hmm
        refine fin (sF σ' 14 (8 + 16 * σ'.1 15)) ?_ (FE.sF hFe _ (by omega)) (fun j hj => sF_ne _ _ hj) ?_
        · unfold M_expression_296 M_expression_320 M_expression_335 M_expression_338
          rw [if_pos (k17.trans hm), if_neg (by rw [k24]; decide), if_neg (by rw [k24]; decide), M_blame_eq 8 k14]
          rfl
        · rw [sF_at, if_pos ⟨hm, rfl⟩, k15]; exact fl_val ln 8
      | false =>
        subst hmm
        cases hdd : d' with
        | true =>
          subst hdd
          refine fin (sF σ' 14 (9 + 16 * σ'.1 15)) ?_ (FE.sF hFe _ (by omega)) (fun j hj => sF_ne _ _ hj) ?_
          · unfold M_expression_296 M_expression_320 M_expression_335 M_expression_338
            rw [if_pos (k17.trans hm), if_pos (by rw [k24]; rfl), if_neg (by rw [g5]; decide), if_pos (by rw [k24]; rfl), M_blame_eq 9 k14]
            rfl
          · rw [sF_at, if_pos ⟨hm, rfl⟩, k15]; exact fl_val ln 9
        | false =>
          subst hdd
          refine fin σ' ?_ hFe (fun _ _ => rfl) ?_
          · unfold M_expression_296 M_expression_338
            rw [if_pos (k17.trans hm), if_pos (by rw [k24]; rfl), if_pos (by rw [g5]; rfl)]
          · rw [if_neg (fun z => absurd z.2 (by decide))]; exact k14
    · refine fin σ' ?_ hFe (fun _ _ => rfl) ?_
      · unfold M_expression_296 M_expression_338
        rw [if_neg (fun z => hm (k17.symm.trans z))]
      · rw [if_neg (fun z => hm z.1)]; exact k14
end
