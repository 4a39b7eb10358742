theorem levN_le (s : Int32) : levN s ≤ 7 := by
  unfold levN
  split
  · omega
  split
  · omega
  split
  · omega
  split
  · omega
  split
  · omega
  split
  · omega
  split
  · omega
  omega
section
variable {N : Nat} {X : List Int32} {σ0 : MS} {η : Int32 → AT → Int32 × Bool} {lo : AT → Bool} {ln : Nat}
theorem expand33 {n : Nat} {x1 x2 : Int32} {σ σ1 : MS} (hf : σ.1 14 = 0) (hs : M_scan N σ = some (0, σ1)) : M_expression_33 N (n + 1) x1 x2 1 σ = (if x2 = 0 then (if nI (rnk (σ1.1 10)) ≤ 0 then M_expression_180 N (M_expression_33 N n) x1 x2 1 (σ.1 9) σ1 else (if σ1.1 10 = 0 then M_expression_180 N (M_expression_33 N n) x1 x2 1 (σ.1 9) σ1 else M_expression_129 N (M_expression_33 N n) N x1 1 σ1)) else (if σ1.1 10 = 40 then M_expression_76 N (M_expression_33 N n) x1 1 σ1 else (if σ1.1 10 = 37 then M_expression_76 N (M_expression_33 N n) x1 1 σ1 else M_expression_81 N (M_expression_33 N n) x1 1 0 σ1))) := by
  rw [M_expression_33]
  show (if (1 : Int32) = 0 then _ else _) = _
  rw [if_neg (by decide), if_pos hf, hs]
  simp only [cl, Option.bind_some, M_rank_eq, cr]
/-- behind an operator or an operand: what is left of the walk through operand() -/
theorem to81 {n : Nat} {x1 : Int32} {t0 : Int32} {σ1 σ2 : MS} {r1 : Int32} (h : M_operand N σ1 = some (r1, σ2)) : M_expression_81 N (M_expression_33 N n) x1 1 t0 σ1 = M_expression_33 N n (if t0 = 0 then x1 else x1 + 1) (if r1 = 0 then 1 else 0) 1 σ2 := by
  unfold M_expression_81
  rw [h]
  simp only [cl, Option.bind_some]
  unfold M_expression_95 M_expression_108 M_expression_252
  by_cases c : r1 = 0
  · rw [if_pos c, if_pos c]; split <;> rfl
  · rw [if_neg c, if_neg c]; split <;> rfl
theorem LI.room {σ : MS} {w : Bool} {o q : Nat} {S : List Int32} {R : List XSt} (h : LI X η lo σ0 σ w o q S R) (hX : X.length ≤ 4096) : S.length + R.length ≤ 4096 ∧ o ≤ 4096 := by
  obtain ⟨h1, h2, h3, h4, h5, h6, h7, -⟩ := h
  have : c40 S ≤ S.length := List.length_filter_le _ _
  omega
theorem c40_cons (S : List Int32) : c40 (40 :: S) = c40 S + 1 := by simp [c40]
theorem c40_skip {s : Int32} (h : s ≠ 40) (S : List Int32) : c40 (s :: S) = c40 S := by simp [c40, h]
theorem nB_un {s : Int32} (h : isB2 s = false) (S : List Int32) : nB (s :: S) = nB S := nB_skip h
/-- a prefix sign is pushed -/
theorem LI_pre {σ σ1 σ2 : MS} {o q e : Nat} {S : List Int32} {R : List XSt} (h : LI X η lo σ0 σ true o q S R) (hX : X.length ≤ 4096) {a : AT} (hsc : SC σ σ1 X q a) (he : q < e) (heX : e ≤ X.length) (h9 : σ1.1 9 = nI e) {s : Int32} (hs : okS s) (hb : isB2 s = false) (hm : M_sign (sg s) σ1 = some (0, σ2)) : LI X η lo σ0 σ2 true (if s = 40 then o + 1 else o) e (s :: S) R := by
  have hroom := h.room hX
  obtain ⟨h1, h2, h3, h4, h5, h6, h7, m, d, h8, h9', h10, h11⟩ := h
  rw [if_pos rfl] at h11
  obtain ⟨V, p1, p2, p3⟩ := h11
  have hv : V.length ≤ R.length := by have := evR_len η R; rw [p2] at this; exact this
  obtain ⟨σ2', a1, a2, a3, a4⟩ := M_sign_eq (p1.sc hsc) (by rw [List.length_map]; omega) (sg s)
  cases hm.symm.trans a1
  have hF1 := h3.sc hsc
  refine ⟨heX, ?_, hF1.fx a3, ?_, ⟨hs, fun z => absurd (hb.symm.trans z) (by decide), h5⟩, ?_, by simp; omega, m, d, ?_, ?_, ?_, ?_⟩
  · rw [a3.1 9 (by decide) (by decide) (by decide)]; exact h9
  · rw [a3.1 14 (by decide) (by decide) (by decide), hsc.1 14 (by decide) (by decide) (by decide) (by decide) (by decide)]; exact h4
  · by_cases c : s = 40
    · subst c; rw [if_pos rfl, c40_cons, h6]
    · rw [if_neg c, c40_skip c]; exact h6
  · rw [a3.1 24 (by decide) (by decide) (by decide), hsc.1 24 (by decide) (by decide) (by decide) (by decide) (by decide)]; exact h8
  · rw [a4, hsc.1 25 (by decide) (by decide) (by decide) (by decide) (by decide)]; exact h9'
  · rw [a3.1 26 (by decide) (by decide) (by decide), hsc.1 26 (by decide) (by decide) (by decide) (by decide) (by decide)]; exact h10
  · rw [if_pos rfl]
    exact ⟨V, a2, p2, by rw [nB_un hb]; exact p3⟩
/-- where no value is due: a bracket closes, an operator comes, or it ends -/
theorem loop_have (hN : 4200 < N) (hX : X.length ≤ 4096) (hln : ln < 10000) (hl : σ0.1 15 = nI ln) (T0 : TX σ0 (tw X) X.length) {n : Nat}
    (ih : ∀ (ts : List AT) (w : Bool) (o q : Nat) (S : List Int32) (R : List XSt) (σ : MS), ts.length ≤ n → lexS X q = ts → LI X η lo σ0 σ w o q S R → XR X η lo σ0 ln (cmpA n ts w o S R) (M_expression_33 N (n + 1) (nI o) (b2 w) 1 σ))
    {a : AT} {r : List AT} {o q : Nat} {S : List Int32} {R : List XSt} {σ : MS} (hlen : (a :: r).length ≤ n + 1) (hlx : lexS X q = a :: r) (h : LI X η lo σ0 σ false o q S R) : XR X η lo σ0 ln (cmpA (n + 1) (a :: r) false o S R) (M_expression_33 N (n + 1 + 1) (nI o) (b2 false) 1 σ) := by
  have hroom := h.room hX
  obtain ⟨σ1, s1, s2, s3, s4, s5⟩ := LI_scan (N := N) (by omega) T0 h hlx
  have hf : σ.1 14 = 0 := h.2.2.2.1
  rw [expand33 hf s1, if_pos (show b2 false = 0 from rfl)]
  have fin := loop_end hN hX hln hl h hlx s2 n
  have ends : ¬ (a.k = 41 ∧ 0 < o) → levN a.k = 0 → M_expression_180 N (M_expression_33 N (n + 1)) (nI o) (b2 false) 1 (σ.1 9) σ1 = M_expression_235 N (M_expression_33 N (n + 1)) (nI o) 0 (σ.1 9) σ1 → XR X η lo σ0 ln (cmpA (n + 1) (a :: r) false o S R) (M_expression_180 N (M_expression_33 N (n + 1)) (nI o) (b2 false) 1 (σ.1 9) σ1) := by
    intro c1 c2 e
    rw [e]
    have ec : cmpA (n + 1) (a :: r) false o S R = some (S, R, o, a :: r) := by
      rw [cmpA, if_neg c1, if_neg (by omega)]
    rw [ec]
    exact fin
  by_cases k0 : a.k = 0
  · have t : σ1.1 10 = 0 := (s2.2.2.1 k0).1
    rw [t, if_pos (by decide)]
    refine ends (fun z => absurd (k0.symm.trans z.1) (by decide)) (by rw [k0]; decide) ?_
    unfold M_expression_180
    rw [t, if_neg (by decide)]
    rfl
  by_cases k1 : a.k = 1
  · have t : σ1.1 10 = 5 := (s2.2.2.2.1 k1).1
    rw [t, if_pos (by decide)]
    refine ends (fun z => absurd (k1.symm.trans z.1) (by decide)) (by rw [k1]; decide) ?_
    unfold M_expression_180
    rw [t, if_neg (by decide)]
    rfl
  obtain ⟨t1, t2, t3, t4, t5, t6, t7, t8, t9, -⟩ := s2.2.2.2.2 k0 k1
  obtain ⟨hTF, hr⟩ := lexS_F hlx k0 k1
  obtain ⟨f1, f2, f3, f4, f5, f6, f7, f8, f9, f10⟩ := okK_facts hTF.1
  have hlev : levN a.k ≤ 7 := levN_le a.k
  rw [t1, f1]
  by_cases c1 : a.k = 41 ∧ 0 < o
  · rw [show levN a.k = 0 by rw [c1.1]; decide, if_pos (by decide)]
    unfold M_expression_180
    rw [t1, if_pos (f3.mpr c1.1), if_neg (by rw [show (0 : Int32) = nI 0 from rfl, nI_leI (by omega) (by omega)]; omega)]
    obtain ⟨h1, h2, h3, h4, h5, h6, h7, m, d, h8, h9, h10, h11⟩ := h
    rw [if_neg (by decide)] at h11
    obtain ⟨v, W, p1, p2, p3⟩ := h11
    obtain ⟨R', e1, e2, e3⟩ := stl_un η (l := 1) (by omega) S R v W (m, d) h5 p2
    have hJ : J η σ1 (restU S) R' m d := ⟨_, p1.sc s2, e2, by rw [s2.1 25 (by decide) (by decide) (by decide) (by decide) (by decide)]; exact h9, by rw [nB_restU]; simp [p3]; omega, restU_wf S h5, restU_top S⟩
    have hlen2 := restU_len S
    obtain ⟨σ', d', S2, R2, g1, g2, g3, ⟨v2, W2, g4, g5, g6⟩, g7, g8, g9⟩ := run193 (N := N) (rec := M_expression_33 N (n + 1)) (x1 := nI o) (x2 := b2 false) (x3 := 1) hN (restU S) N R' d σ1 hJ (restU_mem (c40_mem (by omega))) (by omega)
    rw [g2]
    unfold M_expression_252
    have eo : nI o + (-1) = nI (o - 1) := by
      obtain ⟨o', rfl⟩ : ∃ o', o = o' + 1 := ⟨o - 1, by omega⟩
      exact pk_m1 o'
    rw [eo]
    have est : stl 1 S R = (40 :: S2, R2) := by rw [e1, g1]
    have ecnt : c40 S2 + 1 = c40 S := by
      have := stl_c40 (l := 1) (by omega) S R
      rw [est] at this
      rw [← this, c40_cons]
    have ec : cmpA (n + 1) (a :: r) false o S R = cmpA n r false (o - 1) S2 R2 := by
      rw [cmpA, if_pos c1, est]; rfl
    rw [ec]
    refine ih r false (o - 1) a.e S2 R2 σ' (by simp at hlen; omega) hr.symm ⟨t9, ?_, s4.fx g8, ?_, g3, by omega, by omega, m, d', ?_, g7, ?_, ?_⟩
    · rw [g8.1 9 (by decide) (by decide) (by decide)]; exact t2
    · rw [g8.1 14 (by decide) (by decide) (by decide)]; exact s5
    · rw [g8.1 24 (by decide) (by decide) (by decide), s2.1 24 (by decide) (by decide) (by decide) (by decide) (by decide)]; exact h8
    · rw [g8.1 26 (by decide) (by decide) (by decide), s2.1 26 (by decide) (by decide) (by decide) (by decide) (by decide), h10]
      have := stl_any (lo := lo) (l := 1) S R h5
      rw [est] at this
      rw [← this]
    · rw [if_neg (by decide)]
      exact ⟨v2, W2, g5, g4, g6⟩
  by_cases c2 : 0 < levN a.k
  · obtain ⟨u1, u2, u3, u4⟩ := f10 c2
    have hl7 : levN a.k < 7 := by
      simp only [isB2, Bool.and_eq_true, decide_eq_true_eq] at u3
      exact u3.2
    rw [if_neg (by rw [show (0 : Int32) = nI 0 from rfl, nI_leI (by omega) (by omega)]; omega), if_neg u4]
    obtain ⟨h1, h2, h3, h4, h5, h6, h7, m, d, h8, h9, h10, h11⟩ := h
    rw [if_neg (by decide)] at h11
    obtain ⟨v, W, p1, p2, p3⟩ := h11
    obtain ⟨R', e1, e2, e3⟩ := stl_un η (l := levN a.k) hlev S R v W (m, d) h5 p2
    have hJ : J η σ1 (restU S) R' m d := ⟨_, p1.sc s2, e2, by rw [s2.1 25 (by decide) (by decide) (by decide) (by decide) (by decide)]; exact h9, by rw [nB_restU]; simp [p3]; omega, restU_wf S h5, restU_top S⟩
    have hlen2 := restU_len S
    obtain ⟨σ2, d', g1, ⟨V2, g2, g3, g4, g5, g6, g7⟩, g8, g9, g10⟩ := run129 (N := N) (rec := M_expression_33 N (n + 1)) (x1 := nI o) (x3 := 1) (l := levN a.k) c2 hl7 (restU S) N R' d σ1 hJ (by rw [t1]; exact f1) (by omega)
    rw [g1]
    unfold M_expression_167
    have t10 : σ2.1 10 = sg a.k := by rw [g8.1 10 (by decide) (by decide) (by decide), t1]; exact u1
    have hv2 : V2.length ≤ (stl (levN a.k) (restU S) R').2.length := by have := evR_len η (stl (levN a.k) (restU S) R').2; rw [g3] at this; exact this
    obtain ⟨σ3, b1, b2', b3, b4⟩ := M_sign_eq g2 (by rw [List.length_map]; omega) (sg a.k)
    rw [t10, b1]
    simp only [cl, Option.bind_some]
    unfold M_expression_252
    have ec : cmpA (n + 1) (a :: r) false o S R = cmpA n r true o (a.k :: (stl (levN a.k) (restU S) R').1) (stl (levN a.k) (restU S) R').2 := by
      rw [cmpA, if_neg c1, if_pos c2, e1]
    rw [ec]
    have hne : a.k ≠ 40 := fun z => by rw [z] at c2; exact absurd c2 (by decide)
    refine ih r true o a.e (a.k :: (stl (levN a.k) (restU S) R').1) (stl (levN a.k) (restU S) R').2 σ3 (by simp at hlen; omega) hr.symm ⟨t9, ?_, (s4.fx g8).fx b3, ?_, ⟨u2, fun _ => g7, g6⟩, ?_, by simp; omega, m, d', ?_, ?_, ?_, ?_⟩
    · rw [b3.1 9 (by decide) (by decide) (by decide), g8.1 9 (by decide) (by decide) (by decide)]; exact t2
    · rw [b3.1 14 (by decide) (by decide) (by decide), g8.1 14 (by decide) (by decide) (by decide)]; exact s5
    · rw [c40_skip hne, ← e1, stl_c40 c2 S R]; exact h6
    · rw [b3.1 24 (by decide) (by decide) (by decide), g8.1 24 (by decide) (by decide) (by decide), s2.1 24 (by decide) (by decide) (by decide) (by decide) (by decide)]; exact h8
    · rw [b4]; exact g4
    · rw [b3.1 26 (by decide) (by decide) (by decide), g8.1 26 (by decide) (by decide) (by decide), s2.1 26 (by decide) (by decide) (by decide) (by decide) (by decide), h10, ← e1, stl_any S R h5]
    · rw [if_pos rfl]
      exact ⟨V2, b2', g3, by rw [nB_cons u3]; exact g5⟩
  · have hz : levN a.k = 0 := by omega
    rw [hz, if_pos (by decide)]
    refine ends c1 hz ?_
    unfold M_expression_180
    rw [t1]
    by_cases c3 : rk a.k = 41
    · rw [if_pos c3]
      have : o = 0 := by
        have : ¬ 0 < o := fun z => c1 ⟨f3.mp c3, z⟩
        omega
      subst this
      rw [if_pos (by decide)]; rfl
    · rw [if_neg c3]; rfl
end
