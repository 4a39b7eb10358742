theorem lg_eq0 {x y : Int64} (h : lg_cmp x y = 0) : x = y := by
  unfold lg_cmp at h
  by_cases c : x > y
  · rw [if_pos c] at h; exact absurd h (by decide)
  · rw [if_neg c] at h
    by_cases d : x = y
    · exact d
    · rw [if_neg d] at h; exact absurd h (by decide)
section
variable {N : Nat} {X : List Int32} {σ0 : MS} {η : Int32 → AT → Int32 × Bool} {lo : AT → Bool} {ln : Nat}
theorem loop_want (hN : 4200 < N) (hX : X.length ≤ 4096) (hln : ln < 10000) (hl : σ0.1 15 = nI ln) (T0 : TX σ0 (tw X) X.length) (hη : ∀ a, η 3 a = (a.v, false)) (oN : OpN N X σ0 η lo) (oB : OpB N X σ0 η) (oP : OpP N X σ0) {n : Nat}
    (ih : ∀ (ts : List AT) (w : Bool) (o q : Nat) (S : List Int32) (R : List XSt) (σ : MS), ts.length ≤ n → lexS X q = ts → LI X η lo σ0 σ w o q S R → XR X η lo σ0 ln (cmpA n ts w o S R) (M_expression_33 N (n + 1) (nI o) (b2 w) 1 σ))
    {a : AT} {r : List AT} {o q : Nat} {S : List Int32} {R : List XSt} {σ : MS} (hlen : (a :: r).length ≤ n + 1) (hlx : lexS X q = a :: r) (h : LI X η lo σ0 σ true o q S R) : XR X η lo σ0 ln (cmpA (n + 1) (a :: r) true o S R) (M_expression_33 N (n + 1 + 1) (nI o) (b2 true) 1 σ) := by
  have hroom := h.room hX
  obtain ⟨σ1, s1, s2, s3, s4, s5⟩ := LI_scan (N := N) (by omega) T0 h hlx
  have hf : σ.1 14 = 0 := h.2.2.2.1
  rw [expand33 hf s1, if_neg (show ¬ b2 true = 0 from by decide)]
  -- a token that no operand begins with
  have bad : a.k ≠ 37 → ¬ (a.k = 3 ∨ a.k = 4) → a.k ≠ 2 → a.k ≠ 5 → a.k ≠ 45 → a.k ≠ 126 → a.k ≠ 40 → σ1.1 10 ≠ 1 → σ1.1 10 ≠ 2 → σ1.1 10 ≠ 3 → σ1.1 10 ≠ 37 → σ1.1 10 ≠ 40 → σ1.1 10 ≠ 45 → σ1.1 10 ≠ 126 → XR X η lo σ0 ln (cmpA (n + 1) (a :: r) true o S R) (if σ1.1 10 = 40 then M_expression_76 N (M_expression_33 N (n + 1)) (nI o) 1 σ1 else (if σ1.1 10 = 37 then M_expression_76 N (M_expression_33 N (n + 1)) (nI o) 1 σ1 else M_expression_81 N (M_expression_33 N (n + 1)) (nI o) 1 0 σ1)) := by
    intro c1 c2 c3 c4 c5 c6 c7 d1 d2 d3 d4 d5 d6 d7
    have ec : cmpA (n + 1) (a :: r) true o S R = none := by
      rw [cmpA, if_neg c1, if_neg c2, if_neg c3, if_neg c4, if_neg c5, if_neg c6, if_neg c7]
    obtain ⟨σ2, b1, b2', b3, b4, b5⟩ := blame1 hl s4 s5
    have ho : M_operand N σ1 = some (0, σ2) := by
      unfold M_operand
      rw [if_neg d1, if_neg d2, if_neg d3, if_neg d4, if_neg d5, if_neg d6, if_neg d7, b1]
      rfl
    rw [ec, if_neg d5, if_neg d4, to81 ho]
    exact XB_of (by omega) hln b3 b2' (s2.pos.eq (b4 9 (by decide)))
  by_cases k0 : a.k = 0
  · have t : σ1.1 10 = 0 := (s2.2.2.1 k0).1
    refine bad ?_ ?_ ?_ ?_ ?_ ?_ ?_ ?_ ?_ ?_ ?_ ?_ ?_ ?_ <;> first | (rw [k0]; decide) | (rw [t]; decide)
  by_cases k1 : a.k = 1
  · have t : σ1.1 10 = 5 := (s2.2.2.2.1 k1).1
    refine bad ?_ ?_ ?_ ?_ ?_ ?_ ?_ ?_ ?_ ?_ ?_ ?_ ?_ ?_ <;> first | (rw [k1]; decide) | (rw [t]; decide)
  obtain ⟨t1, t2, t3, t4, t5, t6, t7, t8, t9, -⟩ := s2.2.2.2.2 k0 k1
  obtain ⟨hTF, hr⟩ := lexS_F hlx k0 k1
  obtain ⟨f1, f2, f3, f4, f5, f6, f7, f8, f9, f10⟩ := okK_facts hTF.1
  have h0 := h
  obtain ⟨h1, h2, h3, h4, h5, h6, h7, m, d, h8, h9, h10, h11⟩ := h
  rw [if_pos rfl] at h11
  obtain ⟨V, p1, p2, p3⟩ := h11
  have hv : V.length ≤ R.length := by have := evR_len η R; rw [p2] at this; exact this
  have P1 := p1.sc s2
  have hroomP : (S.map sg).length + V.length < 4100 := by rw [List.length_map]; omega
  have g24 : σ1.1 24 = b2 m := by rw [s2.1 24 (by decide) (by decide) (by decide) (by decide) (by decide)]; exact h8
  have g25 : σ1.1 25 = b2 d := by rw [s2.1 25 (by decide) (by decide) (by decide) (by decide) (by decide)]; exact h9
  have g26 : σ1.1 26 = b2 (R.any (lz lo)) := by rw [s2.1 26 (by decide) (by decide) (by decide) (by decide) (by decide)]; exact h10
  -- behind an operand that is pushed
  have opd : ∀ (k : Int32) (σ2 : MS), isOp k = true → M_operand N σ1 = M_operand_242 N σ2 → PS σ2 (S.map sg) ((η k a).1 :: V) → FE σ0 σ2 → σ2.1 14 = 0 → σ2.1 9 = nI a.e → σ2.1 24 = b2 (m || (η k a).2) → σ2.1 25 = b2 d → σ2.1 26 = b2 (R.any (lz lo) || lz lo (k, a)) → rk a.k ≠ 40 → rk a.k ≠ 37 → cmpA (n + 1) (a :: r) true o S R = cmpA n r false o S (R ++ [(k, a)]) → XR X η lo σ0 ln (cmpA (n + 1) (a :: r) true o S R) (if σ1.1 10 = 40 then M_expression_76 N (M_expression_33 N (n + 1)) (nI o) 1 σ1 else (if σ1.1 10 = 37 then M_expression_76 N (M_expression_33 N (n + 1)) (nI o) 1 σ1 else M_expression_81 N (M_expression_33 N (n + 1)) (nI o) 1 0 σ1)) := by
    intro k σ2 hk ho hP hF2 hf2 h92 h24 h25 h26 n40 n37 ec
    obtain ⟨σ3, c1, c2, c3, c4⟩ := op_fin hN h5 (by omega) hP
    rw [t1, if_neg n40, if_neg n37, to81 (ho.trans c1), ec]
    exact ih r false o a.e S (R ++ [(k, a)]) σ3 (by simp at hlen; omega) hr.symm (LI_op t9 (by omega) (by rw [c3.1 9 (by decide) (by decide) (by decide)]; exact h92) (hF2.fx c3) (by rw [c3.1 14 (by decide) (by decide) (by decide)]; exact hf2) h5 h6 h7 hk p2 p3 (by rw [c3.1 24 (by decide) (by decide) (by decide)]; exact h24) (by rw [c4]; exact h25) (by rw [c3.1 26 (by decide) (by decide) (by decide)]; exact h26) c2)
  -- behind a sign that is pushed
  have pre : ∀ (s : Int32), okS s → isB2 s = false → (∀ σ2, M_sign (sg s) σ1 = some (0, σ2) → M_operand N σ1 = some (0, σ2)) → (rk a.k = 40 ↔ s = 40) → rk a.k ≠ 37 → cmpA (n + 1) (a :: r) true o S R = cmpA n r true (if s = 40 then o + 1 else o) (s :: S) R → XR X η lo σ0 ln (cmpA (n + 1) (a :: r) true o S R) (if σ1.1 10 = 40 then M_expression_76 N (M_expression_33 N (n + 1)) (nI o) 1 σ1 else (if σ1.1 10 = 37 then M_expression_76 N (M_expression_33 N (n + 1)) (nI o) 1 σ1 else M_expression_81 N (M_expression_33 N (n + 1)) (nI o) 1 0 σ1)) := by
    intro s hs hb ho h40 n37 ec
    obtain ⟨σ2, c1, -⟩ := M_sign_eq P1 hroomP (sg s)
    have hLI := LI_pre h0 hX s2 (e := a.e) (by omega) t9 t2 hs hb c1
    have hi := ih r true (if s = 40 then o + 1 else o) a.e (s :: S) R σ2 (by simp at hlen; omega) hr.symm hLI
    rw [t1, ec]
    by_cases c : s = 40
    · rw [if_pos (h40.mpr c)]
      unfold M_expression_76
      rw [to81 (ho σ2 c1), if_neg (show ¬ ((1 : Int32) = 0) by decide), nI_1]
      rw [if_pos c] at hi ⊢
      exact hi
    · rw [if_neg (fun z => c (h40.mp z)), if_neg n37, to81 (ho σ2 c1)]
      rw [if_neg c] at hi ⊢
      exact hi
  by_cases c37 : a.k = 37
  · -- a part of a number
    rw [t1, if_neg (fun z => absurd (c37.symm.trans (f2.mp z)) (by decide)), if_pos (f4.mpr c37)]
    unfold M_expression_76
    obtain ⟨b, r2, hb⟩ := lexS_ne X a.e
    have hrb : r = b :: r2 := hr.trans hb
    have T1 : TX σ1 (tw X) X.length := s4.tx T0
    obtain ⟨σ2, u1, u2, u3⟩ := M_scanA (N := N) T1 (by omega) t9 t2 hb
    have F2 := s4.sc u2
    have f2' : σ2.1 14 = 0 := by rw [u2.1 14 (by decide) (by decide) (by decide) (by decide) (by decide)]; exact s5
    have P2 := P1.sc u2
    -- where the second scan stands
    have pos2 : ∃ q2, q2 ≤ X.length ∧ σ2.1 9 = nI q2 ∧ (b.k = 2 → q2 = b.e ∧ r2 = lexS X b.e) := by
      by_cases kb0 : b.k = 0
      · obtain ⟨-, q2, w1, w2, w3, -⟩ := u2.2.2.1 kb0
        exact ⟨q2, w2, w3, fun z => absurd (kb0.symm.trans z) (by decide)⟩
      by_cases kb1 : b.k = 1
      · obtain ⟨-, q2, w1, w2, w3⟩ := u2.2.2.2.1 kb1
        exact ⟨q2, w2, w3, fun z => absurd (kb1.symm.trans z) (by decide)⟩
      obtain ⟨v1, v2, v3, v4, v5, v6, v7, v8, v9, -⟩ := u2.2.2.2.2 kb0 kb1
      exact ⟨b.e, v9, v2, fun _ => ⟨rfl, u3 kb0 kb1⟩⟩
    obtain ⟨q2, w1, w2, w3⟩ := pos2
    -- the name that it is
    have nm : ∃ (z : Int64), M_operand N σ1 = M_operand_180 N z σ2 ∧ (z = 584 ↔ (b.k = 2 ∧ b.nm = hiB)) ∧ (z = 972 ↔ (b.k = 2 ∧ b.nm = loB)) := by
      have e0 : M_operand N σ1 = (if σ2.1 10 = 1 then cr (M_packed N (σ2.1 11) (σ2.1 12) σ2) (fun r10 => M_operand_180 N r10 σ2) else M_operand_180 N 0 σ2) := by
        unfold M_operand
        have e37 : rk a.k = 37 := f4.mpr c37
        rw [t1, e37, if_neg (by decide), if_neg (by decide), if_neg (by decide), if_pos rfl, u1]
        rfl
      by_cases kb0 : b.k = 0
      · have : σ2.1 10 = 0 := (u2.2.2.1 kb0).1
        rw [e0, this, if_neg (by decide)]
        exact ⟨0, rfl, ⟨fun z => absurd z (by decide), fun z => absurd (kb0.symm.trans z.1) (by decide)⟩, ⟨fun z => absurd z (by decide), fun z => absurd (kb0.symm.trans z.1) (by decide)⟩⟩
      by_cases kb1 : b.k = 1
      · have : σ2.1 10 = 5 := (u2.2.2.2.1 kb1).1
        rw [e0, this, if_neg (by decide)]
        exact ⟨0, rfl, ⟨fun z => absurd z (by decide), fun z => absurd (kb1.symm.trans z.1) (by decide)⟩, ⟨fun z => absurd z (by decide), fun z => absurd (kb1.symm.trans z.1) (by decide)⟩⟩
      obtain ⟨v1, v2, v3, v4, v5, v6, v7, v8, v9, -⟩ := u2.2.2.2.2 kb0 kb1
      obtain ⟨hTb, -⟩ := lexS_F hb kb0 kb1
      have fb := (okK_facts hTb.1).2.2.2.2.2.2.1
      by_cases kb2 : b.k = 2
      · obtain ⟨z, z1, z2, z3⟩ := oP b σ2 hTb kb2 F2
        rw [e0, v1, if_pos (fb.mpr kb2), v3, v4, z1]
        exact ⟨z, rfl, ⟨fun y => ⟨kb2, z2.mp y⟩, fun y => z2.mpr y.2⟩, ⟨fun y => ⟨kb2, z3.mp y⟩, fun y => z3.mpr y.2⟩⟩
      · rw [e0, v1, if_neg (fun y => kb2 (fb.mp y))]
        exact ⟨0, rfl, ⟨fun z => absurd z (by decide), fun z => absurd z.1 kb2⟩, ⟨fun z => absurd z (by decide), fun z => absurd z.1 kb2⟩⟩
    obtain ⟨z, z1, z2, z3⟩ := nm
    -- operand() behind the name: the sign, the bracket
    have tail : ∀ (σ3 : MS) (s : Int32), (s = 12 ∨ s = 13) → PS σ3 (S.map sg) V → TX σ3 (tw X) X.length → σ3.1 9 = nI q2 → FE σ0 σ3 → ∃ (c : AT) (r3 : List AT) (σ4 : MS), lexS X q2 = c :: r3 ∧ M_operand_216 N (sg s) σ3 = some (0, σ4) ∧ FE σ0 σ4 ∧ At9 X σ4 ∧ (σ3.1 14 ≠ 0 → σ4.1 14 = σ3.1 14) ∧ (σ3.1 14 = 0 → c.k ≠ 40 → σ4.1 14 = nI (1 + 16 * ln)) ∧ (σ3.1 14 = 0 → c.k = 40 → σ4.1 14 = 0 ∧ σ4.1 9 = nI c.e ∧ r3 = lexS X c.e ∧ q2 < c.e ∧ c.e ≤ X.length ∧ PS σ4 (1 :: sg s :: S.map sg) V ∧ σ4.1 24 = σ3.1 24 ∧ σ4.1 25 = σ3.1 25 ∧ σ4.1 26 = σ3.1 26) := by
      intro σ3 s hs hP3 T3 h93 hF3
      obtain ⟨c, r3, hc⟩ := lexS_ne X q2
      obtain ⟨σ5, a1, a2, a3, a4⟩ := M_sign_eq hP3 hroomP (sg s)
      have F5 := hF3.fx a3
      have T5 : TX σ5 (tw X) X.length := F5.tx T0
      have h95 : σ5.1 9 = nI q2 := by rw [a3.1 9 (by decide) (by decide) (by decide)]; exact h93
      obtain ⟨σ6, b1, b2', b3⟩ := M_scanA (N := N) T5 (by omega) w1 h95 hc
      have F6 := F5.sc b2'
      have e14 : σ6.1 14 = σ3.1 14 := by rw [b2'.1 14 (by decide) (by decide) (by decide) (by decide) (by decide), a3.1 14 (by decide) (by decide) (by decide)]
      have hP6 := a2.sc b2'
      by_cases k40 : σ6.1 10 = 40
      · -- the bracket is there
        have ck : c.k = 40 := by
          by_cases kc0 : c.k = 0
          · exact absurd ((b2'.2.2.1 kc0).1.symm.trans k40) (by decide)
          by_cases kc1 : c.k = 1
          · exact absurd ((b2'.2.2.2.1 kc1).1.symm.trans k40) (by decide)
          obtain ⟨v1, -⟩ := b2'.2.2.2.2 kc0 kc1
          obtain ⟨hTc, -⟩ := lexS_F hc kc0 kc1
          exact (okK_facts hTc.1).2.1.mp (v1.symm.trans k40)
        have kc0 : c.k ≠ 0 := by rw [ck]; decide
        have kc1 : c.k ≠ 1 := by rw [ck]; decide
        obtain ⟨v1, v2, v3, v4, v5, v6, v7, v8, v9, -⟩ := b2'.2.2.2.2 kc0 kc1
        obtain ⟨σ7, d1, d2, d3, d4⟩ := M_sign_eq hP6 (by simp only [List.length_cons, List.length_map]; omega) 1
        refine ⟨c, r3, σ7, hc, ?_, F6.fx d3, b2'.pos.eq (d3.1 9 (by decide) (by decide) (by decide)), fun _ => ?_, fun _ y => absurd ck y, fun e _ => ⟨?_, ?_, b3 kc0 kc1, by omega, v9, d2, ?_, ?_, ?_⟩⟩
        · unfold M_operand_216 M_operand_233
          rw [a1]
          simp only [cl, Option.bind_some]
          unfold M_needs M_needs_17 M_needs_30
          rw [b1]
          simp only [cl, Option.bind_some]
          rw [if_pos k40, if_pos k40, gd_t (by decide)]
          simp only [Option.bind_some]
          rw [if_neg (by decide), d1]
          rfl
        · rw [d3.1 14 (by decide) (by decide) (by decide)]; exact e14
        · rw [d3.1 14 (by decide) (by decide) (by decide), e14]; exact e
        · rw [d3.1 9 (by decide) (by decide) (by decide)]; exact v2
        · rw [d3.1 24 (by decide) (by decide) (by decide), b2'.1 24 (by decide) (by decide) (by decide) (by decide) (by decide), a3.1 24 (by decide) (by decide) (by decide)]
        · rw [d4, b2'.1 25 (by decide) (by decide) (by decide) (by decide) (by decide), a4]
        · rw [d3.1 26 (by decide) (by decide) (by decide), b2'.1 26 (by decide) (by decide) (by decide) (by decide) (by decide), a3.1 26 (by decide) (by decide) (by decide)]
      · have ck : c.k ≠ 40 := by
          intro ck
          have kc0 : c.k ≠ 0 := by rw [ck]; decide
          have kc1 : c.k ≠ 1 := by rw [ck]; decide
          obtain ⟨v1, -⟩ := b2'.2.2.2.2 kc0 kc1
          exact k40 (by rw [v1, ck]; rfl)
        by_cases e3 : σ3.1 14 = 0
        · obtain ⟨σ7, d1, d2, d3, d4, d5⟩ := blame1 hl F6 (by rw [e14]; exact e3)
          refine ⟨c, r3, σ7, hc, ?_, d3, b2'.pos.eq (d4 9 (by decide)), fun y => absurd e3 y, fun _ _ => d2, fun _ y => absurd y ck⟩
          unfold M_operand_216 M_operand_233
          rw [a1]
          simp only [cl, Option.bind_some]
          unfold M_needs M_needs_17 M_needs_30
          rw [b1]
          simp only [cl, Option.bind_some]
          rw [if_neg k40, d1]
          simp only [Option.bind_some]
          rw [d4 10 (by decide), if_neg k40, gd_t (by decide)]
          simp only [Option.bind_some]
          first | rfl | exact if_pos trivial
        · refine ⟨c, r3, σ6, hc, ?_, F6, b2'.pos, fun _ => e14, fun y => absurd y e3, fun y => absurd y e3⟩
          unfold M_operand_216 M_operand_233
          rw [a1]
          simp only [cl, Option.bind_some]
          unfold M_needs M_needs_17 M_needs_30
          rw [b1]
          simp only [cl, Option.bind_some]
          rw [if_neg k40, M_blame_no 1 (by rw [e14]; exact e3)]
          simp only [Option.bind_some]
          rw [if_neg k40, gd_t (by decide)]
          simp only [Option.bind_some]
          first | rfl | exact if_pos trivial
    have e82 : ∀ z : Int64, M_operand_202 N z σ2 = M_operand_216 N (if z = 584 then 4 else 5) σ2 := by
      intro z
      unfold M_operand_202
      by_cases y : z = 584
      · rw [if_pos y, if_pos (by rw [y]; decide)]
      · rw [if_neg y, if_neg (fun x => y (lg_eq0 x))]
    by_cases good : b.k = 2 ∧ (b.nm = hiB ∨ b.nm = loB)
    · obtain ⟨g1, g2⟩ := good
      obtain ⟨eq2, er2⟩ := w3 g1
      obtain ⟨c, r3, σ4, y1, y2, y3, y7, y4, y5, y6⟩ := tail σ2 (if b.nm = hiB then 12 else 13) (by split <;> simp) P2 (F2.tx T0) w2 F2
      have eo : M_operand N σ1 = some (0, σ4) := by
        rw [z1]
        unfold M_operand_180
        have hz : z = 584 ∨ z = 972 := by
          rcases g2 with g | g
          · exact Or.inl (z2.mpr ⟨g1, g⟩)
          · exact Or.inr (z3.mpr ⟨g1, g⟩)
        have e202 : M_operand_202 N z σ2 = some (0, σ4) := by
          rw [e82, ← y2]
          congr 1
          by_cases g : b.nm = hiB
          · rw [if_pos (z2.mpr ⟨g1, g⟩), if_pos g]; rfl
          · rw [if_neg (fun x => g (z2.mp x).2), if_neg g]; rfl
        rcases hz with hz | hz
        · rw [if_pos (by rw [hz]; decide)]; exact e202
        · rw [if_neg (by rw [hz]; decide), if_pos (by rw [hz]; decide)]; exact e202
      rw [to81 eo, if_neg (by decide), nI_1, if_pos rfl]
      have hcr : r2 = c :: r3 := by rw [er2, ← eq2]; exact y1
      by_cases ck : c.k = 40
      · obtain ⟨x1, x2, x3, x4, x5, x6, x7, x8, x9⟩ := y6 f2' ck
        have ec : cmpA (n + 1) (a :: r) true o S R = cmpA n r3 true (o + 1) (40 :: (if b.nm = hiB then 12 else 13) :: S) R := by
          rw [cmpA, if_pos c37, hrb, hcr]
          exact if_pos ⟨g1, g2, ck⟩
        rw [ec]
        have hl3 : r3.length ≤ n := by
          rw [hrb, hcr] at hlen
          simp at hlen
          omega
        have hbe : a.e < b.e := by
          have kb0 : b.k ≠ 0 := by rw [g1]; decide
          have kb1 : b.k ≠ 1 := by rw [g1]; decide
          obtain ⟨v1, v2, v3, v4, v5, v6, v7, v8, v9, -⟩ := u2.2.2.2.2 kb0 kb1
          omega
        have hun : okS (if b.nm = hiB then 12 else 13) ∧ isB2 (if b.nm = hiB then 12 else 13) = false ∧ (if b.nm = hiB then (12 : Int32) else 13) ≠ 40 := by
          split
          · exact ⟨by unfold okS; simp, by decide, by decide⟩
          · exact ⟨by unfold okS; simp, by decide, by decide⟩
        refine ih r3 true (o + 1) c.e (40 :: (if b.nm = hiB then 12 else 13) :: S) R σ4 hl3 x3.symm ⟨x5, x2, y3, x1, ⟨by unfold okS; simp, fun y => absurd y (by decide), hun.1, fun y => absurd (hun.2.1.symm.trans y) (by decide), h5⟩, ?_, by simp; omega, m, d, ?_, ?_, ?_, ?_⟩
        · rw [c40_cons, c40_skip hun.2.2, h6]
        · rw [x7, u2.1 24 (by decide) (by decide) (by decide) (by decide) (by decide)]; exact g24
        · rw [x8, u2.1 25 (by decide) (by decide) (by decide) (by decide) (by decide)]; exact g25
        · rw [x9, u2.1 26 (by decide) (by decide) (by decide) (by decide) (by decide)]; exact g26
        · rw [if_pos rfl]
          exact ⟨V, x6, p2, by rw [nB_skip (by decide), nB_skip hun.2.1]; exact p3⟩
      · have ec : cmpA (n + 1) (a :: r) true o S R = none := by
          rw [cmpA, if_pos c37, hrb, hcr]
          exact if_neg (fun y => ck y.2.2)
        rw [ec]
        exact XB_of (by omega) hln y3 (y5 f2' ck) y7
    · have ec : cmpA (n + 1) (a :: r) true o S R = none := by
        rw [cmpA, if_pos c37, hrb]
        cases r2 with
        | nil => rfl
        | cons c r3 =>
          exact if_neg (fun y => good ⟨y.1, y.2.1⟩)
      obtain ⟨σ3, d1, d2, d3, d4, d5⟩ := blame1 hl F2 f2'
      have hne : σ3.1 14 ≠ 0 := by rw [d2]; exact fl_ne hln 1 (by omega)
      have hP3 : PS σ3 (S.map sg) V := by
        obtain ⟨a1, a2, a3, a4, a5⟩ := P2
        exact ⟨by rw [d4 27 (by decide)]; exact a1, by rw [d4 28 (by decide)]; exact a2, a3, fun i hi => by rw [d5]; exact a4 i hi, fun i hi => by rw [d5]; exact a5 i hi⟩
      obtain ⟨c, r3, σ4, y1, y2, y3, y7, y4, y5, y6⟩ := tail σ3 13 (Or.inr rfl) hP3 (d3.tx T0) (by rw [d4 9 (by decide)]; exact w2) d3
      have nz : z ≠ 584 ∧ z ≠ 972 := ⟨fun y => good ⟨(z2.mp y).1, Or.inl (z2.mp y).2⟩, fun y => good ⟨(z3.mp y).1, Or.inr (z3.mp y).2⟩⟩
      have eo : M_operand N σ1 = some (0, σ4) := by
        rw [z1]
        unfold M_operand_180
        rw [if_neg (fun x => nz.1 (lg_eq0 x)), if_neg (fun x => nz.2 (lg_eq0 x)), d1]
        simp only [cl, Option.bind_some]
        unfold M_operand_202
        rw [if_neg (fun x => nz.1 (lg_eq0 x))]
        exact y2
      rw [to81 eo, ec]
      exact XB_of (by omega) hln y3 (by rw [y4 hne]; exact d2) y7
  by_cases c3 : a.k = 3 ∨ a.k = 4
  · -- a number
    obtain ⟨σ2, b1, b2', b3, b4⟩ := M_value_eq P1 hroomP a.v
    refine opd 3 σ2 (by decide) ?_ (by rw [hη]; exact b2') (s4.fx b3) (by rw [b3.1 14 (by decide) (by decide) (by decide)]; exact s5) (by rw [b3.1 9 (by decide) (by decide) (by decide)]; exact t2) (by rw [hη, Bool.or_false, b3.1 24 (by decide) (by decide) (by decide)]; exact g24) (by rw [b4]; exact g25) ?_ (fun y => by rcases c3 with e | e <;> rw [f2.mp y] at e <;> exact absurd e (by decide)) (fun y => c37 (f4.mp y)) (by rw [cmpA, if_neg c37, if_pos c3])
    · unfold M_operand
      rw [t1, f8.mpr c3, if_neg (by decide), if_pos rfl, t5 c3, b1]
      rfl
    · rw [b3.1 26 (by decide) (by decide) (by decide), show lz lo (3, a) = false from by show (if (3 : Int32) = 2 ∨ (3 : Int32) = 7 then lo a else decide ((3 : Int32) = 8 ∨ (3 : Int32) = 9)) = false; rw [if_neg (by decide)]; decide, Bool.or_false]; exact g26
  by_cases c2 : a.k = 2
  · -- a name
    obtain ⟨σ2, b1, b2', b3, b4, b5, b6, b7, b8⟩ := oN a σ1 (S.map sg) V m (R.any (lz lo)) hTF c2 s4 t3 t4 P1 hroomP g24 g26
    refine opd (nmK a) σ2 (isOp_nm a).1 ?_ b2' b5 (by rw [b6]; exact s5) (by rw [b8]; exact t2) b3 (by rw [b7]; exact g25) ?_ (fun y => by rw [f2.mp y] at c2; exact absurd c2 (by decide)) (fun y => c37 (f4.mp y)) (by rw [cmpA, if_neg c37, if_neg c3, if_pos c2])
    · unfold M_operand
      rw [t1, f7.mpr c2, if_pos rfl, b1]
      rfl
    · rw [b4, show lz lo (nmK a, a) = lo a from by unfold lz; rw [if_pos (isOp_nm a).2]]
  by_cases c5 : a.k = 5
  · -- a near label
    obtain ⟨dd, e1, e2, e3, e4, e5⟩ := t6 c5
    obtain ⟨σ2, b1, b2', b3, b4⟩ := oB a (sF σ1 26 1) m hTF c5 (FE.sF s4 _ (by omega)) (by rw [sF_ne _ _ (by decide)]; exact g24)
    have P2 : PS σ2 (S.map sg) V := by
      obtain ⟨a1, a2, a3, a4, a5⟩ := P1
      exact ⟨by rw [b3 27 (by decide), sF_ne _ _ (by decide)]; exact a1, by rw [b3 28 (by decide), sF_ne _ _ (by decide)]; exact a2, a3, fun i hi => by rw [b4]; exact a4 i hi, fun i hi => by rw [b4]; exact a5 i hi⟩
    obtain ⟨σ3, d1, d2, d3, d4⟩ := M_value_eq P2 hroomP (η (nrK a) a).1
    have F2 : FE σ0 σ2 := ⟨fun j x1 x2 x3 x4 x5 x6 => by rw [b3 j x2, sF_ne _ _ x4]; exact s4.1 j x1 x2 x3 x4 x5 x6, fun k hk => by rw [b4]; exact s4.2 k hk⟩
    have hn5 := T0.small
    have etx : (sF σ1 26 1).2 1 (a.p + 1) = tw X (a.p + 1) := by
      have := (s4.tx T0).text (a.p + 1) (by omega)
      exact this
    refine opd (nrK a) σ3 (isOp_nr a).1 ?_ d2 (F2.fx d3) (by rw [d3.1 14 (by decide) (by decide) (by decide), b3 14 (by decide), sF_ne _ _ (by decide)]; exact s5) (by rw [d3.1 9 (by decide) (by decide) (by decide), b3 9 (by decide), sF_ne _ _ (by decide)]; exact t2) (by rw [d3.1 24 (by decide) (by decide) (by decide)]; exact b2') (by rw [d4, b3 25 (by decide), sF_ne _ _ (by decide)]; exact g25) ?_ (fun y => by rw [f2.mp y] at c5; exact absurd c5 (by decide)) (fun y => c37 (f4.mp y)) (by rw [cmpA, if_neg c37, if_neg c3, if_neg c2, if_pos c5])
    · unfold M_operand
      rw [t1, f9.mpr c5, if_neg (by decide), if_neg (by decide), if_pos rfl]
      simp only [bnd]
      rw [show (sF σ1 26 1).1 12 = nI a.e from t4, show (sF σ1 26 1).1 13 = dd from e1, show nI a.e - 1 = nI (a.p + 1) by rw [e4]; exact nI_pred (a.p + 1), gd_t (inB_nI (by omega) (by omega)), nI_clamp (by omega), etx]
      unfold M_operand_122
      rw [e2]
      by_cases cf : tw X (a.p + 1) = 102
      · rw [if_pos cf] at b1 ⊢
        rw [b1]
        simp only [cl, Option.bind_some]
        rw [d1]
        rfl
      · rw [if_neg cf] at b1 ⊢
        rw [b1]
        simp only [cl, Option.bind_some]
        rw [d1]
        rfl
    · rw [d3.1 26 (by decide) (by decide) (by decide), b3 26 (by decide), sF_at]
      have : lz lo (nrK a, a) = true := by
        unfold lz
        rw [if_neg (isOp_nr a).2.1]
        simp [(isOp_nr a).2.2]
      rw [this, Bool.or_true]
      rfl
  by_cases c45 : a.k = 45
  · refine pre 10 (by unfold okS; simp) (by decide) (fun σ2 e => ?_) ⟨fun y => by rw [f2.mp y] at c45; exact absurd c45 (by decide), fun y => absurd y (by decide)⟩ (fun y => c37 (f4.mp y)) (by rw [cmpA, if_neg c37, if_neg c3, if_neg c2, if_neg c5, if_pos c45]; rfl)
    unfold M_operand
    rw [t1, f5.mpr c45, if_neg (by decide), if_neg (by decide), if_neg (by decide), if_neg (by decide), if_neg (by decide), if_pos rfl, show M_sign 2 σ1 = some (0, σ2) from e]
    rfl
  by_cases c126 : a.k = 126
  · refine pre 11 (by unfold okS; simp) (by decide) (fun σ2 e => ?_) ⟨fun y => by rw [f2.mp y] at c126; exact absurd c126 (by decide), fun y => absurd y (by decide)⟩ (fun y => c37 (f4.mp y)) (by rw [cmpA, if_neg c37, if_neg c3, if_neg c2, if_neg c5, if_neg c45, if_pos c126]; rfl)
    unfold M_operand
    rw [t1, f6.mpr c126, if_neg (by decide), if_neg (by decide), if_neg (by decide), if_neg (by decide), if_neg (by decide), if_neg (by decide), if_pos rfl, show M_sign 3 σ1 = some (0, σ2) from e]
    rfl
  by_cases c40 : a.k = 40
  · refine pre 40 (by unfold okS; simp) (by decide) (fun σ2 e => ?_) ⟨fun _ => rfl, fun _ => f2.mpr c40⟩ (fun y => c37 (f4.mp y)) (by rw [cmpA, if_neg c37, if_neg c3, if_neg c2, if_neg c5, if_neg c45, if_neg c126, if_pos c40]; rfl)
    unfold M_operand
    rw [t1, f2.mpr c40, if_neg (by decide), if_neg (by decide), if_neg (by decide), if_neg (by decide), if_pos rfl, show M_sign 1 σ1 = some (0, σ2) from e]
    rfl
  exact bad c37 c3 c2 c5 c45 c126 c40 (fun y => c2 (f7.mp (t1.symm.trans y))) (fun y => c3 (f8.mp (t1.symm.trans y))) (fun y => c5 (f9.mp (t1.symm.trans y))) (fun y => c37 (f4.mp (t1.symm.trans y))) (fun y => c40 (f2.mp (t1.symm.trans y))) (fun y => c45 (f5.mp (t1.symm.trans y))) (fun y => c126 (f6.mp (t1.symm.trans y)))
end
