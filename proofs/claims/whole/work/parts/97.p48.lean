/-! ===== labelled() ===== -/
theorem rk_lab {k : Int32} (h : okK k) : (rk k = 0 ↔ k = 0) ∧ (rk k = 1 ↔ k = 2) ∧ (rk k = 2 ↔ (k = 3 ∨ k = 4)) ∧ (rk k = 58 ↔ k = 58) ∧ rk k ≠ 5 := by
  rcases h with h | h | h | h | h | h | h | h | h | h | h | h | h | h | h | h | h | h | h | h | h <;> subst h <;> decide
section
variable {N : Nat} {X : List Int32} {σA : MS}
theorem RSt.dfn {E : List Ev} {sec ln q : Nat} {σ : MS} (h : RSt X σA E sec ln q σ) {p kd : Nat} (hp : p < X.length) (hk : kd ≤ 4) (h2 : 2 * ((LbE E).length + 1) ≤ q) (v : Int32) {lnE secE : Nat} : RSt X σA (E ++ [(kd, p, lnE, secE, v, [])]) sec ln q (dfn σ (nI p) (nI kd) v) := by
  obtain ⟨a1, a2, a3, a4, a5, a5', a6, a7, a8, a9, a10, a11, a12⟩ := h
  have hs := a2.small
  have hL := LBs_dfn a3 hs (by omega) hp hk v
  have eL : LbE (E ++ [(kd, p, lnE, secE, v, [])]) = LbE E ++ [(p, kd, v)] := by
    rw [LbE_snoc, if_pos (show kd < 5 by omega)]
  have eS : StE (E ++ [(kd, p, lnE, secE, v, [])]) = StE E := by
    rw [StE_snoc, if_neg (show ¬ kd = 5 by omega), List.append_nil]
  refine ⟨a1.tr ⟨rfl, rfl, rfl, rfl, rfl⟩, ⟨a2.1, a2.2.1, a2.2.2⟩, by rw [eL]; exact hL, a4, a5, a5', a6, a7, a8, by rw [eS]; exact a9, by rw [eS]; exact a10, ?_, a12⟩
  rw [eL, List.length_append]
  exact h2
theorem lab_fault {m : Nat} {F : Int32} {σ : MS} (hF : F ≠ 0) (h : FTt X σA F σ) : M_labelled_0 N (m + 1) σ = some (0, σ) := by
  rw [M_labelled_0]
  show (if σ.1 14 = 0 then _ else _) = _
  rw [if_neg (by rw [h.2.2]; exact hF)]
theorem M_lab (hN : 4200 < N) {sec ln : Nat} : ∀ (n m : Nat) (ts : List AT) (E : List Ev) (q : Nat) (σ : MS), ts.length ≤ n → n + 1 < m → lexS X q = ts → RSt X σA E sec ln q σ → RR (M_labelled_0 N m σ) (fun v σ' => LbP X σA sec ln (rdLab X sec ln n ts E) v σ') := by
  intro n
  induction n with
  | zero =>
    intro m ts E q σ h1 h2 hl h
    obtain ⟨a, r, e⟩ := lexS_ne X q
    rw [← hl, e] at h1
    simp at h1
  | succ n ih =>
    intro m ts E q σ h1 h2 hl h
    obtain ⟨m', rfl⟩ : ∃ m', m = m' + 1 + 1 := ⟨m - 2, by omega⟩
    obtain ⟨a, r, e⟩ := lexS_ne X q
    have ets : ts = a :: r := hl.symm.trans e
    subst ets
    have h0 := h
    obtain ⟨a1, a2, a3, a4, a5, a5', a6, a7, a8, a9, a10, a11, a12⟩ := h
    have hs := a2.small
    obtain ⟨σ1, s1, s2, s3, s4⟩ := R_scan hN h0 e
    have t14 : σ1.1 14 = 0 := by rw [s2.1 14 (by decide) (by decide) (by decide) (by decide) (by decide)]; exact a6
    have t15 : σ1.1 15 = nI ln := by rw [s2.1 15 (by decide) (by decide) (by decide) (by decide) (by decide)]; exact a4
    rw [M_labelled_0]
    show RR (if σ.1 14 = 0 then _ else _) _
    refine RR_y a6 ?_
    rw [s1]
    simp only [cl, Option.bind_some]
    have bad : ∀ t : Nat × Option AT × List AT × List Ev, t.1 = 1 → rdLab X sec ln (n + 1) (a :: r) E = t → σ1.1 10 ≠ 0 → σ1.1 10 ≠ 1 → RR (M_labelled_43 N (M_labelled_0 N (m' + 1)) (σ1.1 11) (σ1.1 12) (σ1.1 10) 0 σ1) (fun v σ' => LbP X σA sec ln (rdLab X sec ln (n + 1) (a :: r) E) v σ') := by
      intro t ht et n0 n1
      unfold M_labelled_43
      refine RR_n n0 (RR_n n1 (RR_y rfl (RR_then (R_blame (E := E) (sec := sec) (q := q) t14 t15 (a1.tr s4) s2.pos 1 (k := 1) rfl) (fun _ σ2 h2 => RR_ret ?_))))
      rw [et]
      unfold LbP
      rw [ht, if_pos (by decide)]
      exact ⟨rfl, h2.1⟩
    by_cases k0 : a.k = 0
    · obtain ⟨t1, q', w1, w2, w3, w4, w5, w6, w7⟩ := s2.2.2.1 k0
      refine RR_n (by rw [t1]; decide) ?_
      unfold M_labelled_42 M_labelled_43
      refine RR_y t1 (RR_ret ?_)
      have et : rdLab X sec ln (n + 1) (a :: r) E = (0, none, a :: r, E) := rdLab_0 X sec ln n E k0
      rw [et]
      unfold LbP
      rw [if_neg (fun z => z rfl)]
      refine ⟨rfl, q', h0.to w1 w2 s2.1 s2.2.1 w3, w6.trans e, ?_, ?_⟩
      · show decide (a.k = 0) = true; exact decide_eq_true k0
      · rw [w7, skipB_id]
    by_cases k1 : a.k = 1
    · have t1 := (s2.2.2.2.1 k1).1
      refine RR_n (by rw [t1]; decide) ?_
      unfold M_labelled_42
      exact bad (1, none, [], E) rfl (rdLab_bad X sec ln n E k0 (by rw [k1]; decide)) (by rw [t1]; decide) (by rw [t1]; decide)
    obtain ⟨v1, v2, v3, v4, v5, v6, v7, v8, v9, -⟩ := s2.2.2.2.2 k0 k1
    obtain ⟨hTF, er⟩ := lexS_F e k0 k1
    obtain ⟨f0, f1, f2, f58, f5⟩ := rk_lab hTF.1
    -- two tokens of a label
    have lab : ∀ (dg : Bool), (dg = true ↔ a.k = 4) → (a.k = 2 ∨ a.k = 4) → RR (M_labelled_68 N (M_labelled_0 N (m' + 1)) (nI a.p) (nI a.e) (b2 dg) σ1) (fun v σ' => LbP X σA sec ln (rdLab X sec ln (n + 1) (a :: r) E) v σ') := by
      intro dg hdg hk24
      have hR1 : RSt X σA E sec ln a.e σ1 := h0.to (by omega) v9 s2.1 s2.2.1 v2
      obtain ⟨b, r2, e2⟩ := lexS_ne X a.e
      have er2 : r = b :: r2 := er.trans e2
      obtain ⟨σ2, u1, u2, u3, u4⟩ := R_scan hN hR1 e2
      have q14 : σ2.1 14 = 0 := by rw [u2.1 14 (by decide) (by decide) (by decide) (by decide) (by decide)]; exact t14
      have q15 : σ2.1 15 = nI ln := by rw [u2.1 15 (by decide) (by decide) (by decide) (by decide) (by decide)]; exact t15
      have q16 : σ2.1 16 = nI sec := by rw [u2.1 16 (by decide) (by decide) (by decide) (by decide) (by decide), s2.1 16 (by decide) (by decide) (by decide) (by decide) (by decide)]; exact a5
      have kf2 : KF σA σ2 := (a1.tr s4).tr u4
      have tok : (σ2.1 10 = 58) ↔ b.k = 58 := by
        by_cases j0 : b.k = 0
        · rw [(u2.2.2.1 j0).1, j0]
        by_cases j1 : b.k = 1
        · rw [(u2.2.2.2.1 j1).1, j1]; decide
        rw [(u2.2.2.2.2 j0 j1).1]
        exact (rk_lab (lexS_F e2 j0 j1).1.1).2.2.2.1
      unfold M_labelled_68
      rw [u1]
      simp only [cl, Option.bind_some]
      by_cases c58 : b.k = 58
      · refine RR_y (tok.mpr c58) ?_
        have j0 : b.k ≠ 0 := by rw [c58]; decide
        have j1 : b.k ≠ 1 := by rw [c58]; decide
        obtain ⟨y1, y2, y3, y4, y5, y6, y7, y8, y9, -⟩ := u2.2.2.2.2 j0 j1
        have hR2 : RSt X σA E sec ln b.e σ2 := hR1.to (by omega) y9 u2.1 u2.2.1 y2
        have go : ∀ kd : Nat, kd = sec + (if a.k = 4 then 3 else 0) → ¬ (a.k = 2 ∧ tkA X (LbE E) a.nm = true) → RR (cl (M_define (nI a.p) (nI a.e) (nI kd) 0 σ2) (fun _ σ3 => M_labelled_166 N (M_labelled_0 N (m' + 1)) σ3)) (fun v σ' => LbP X σA sec ln (rdLab X sec ln (n + 1) (a :: r) E) v σ') := by
          intro kd hkd hnt
          have et : rdLab X sec ln (n + 1) (a :: r) E = rdLab X sec ln n r2 (E ++ [(kd, a.p, ln, sec, 0, [])]) := by
            rw [er2, rdLab_c X sec ln n E k0 hk24, if_pos c58, if_neg hnt, hkd]
          rw [et, M_define_eq (n := (LbE E).length) hR2.2.2.1.1 (by have := hR2.2.2.1.2.1; omega)]
          unfold M_labelled_166
          refine ih (m' + 1) r2 _ b.e _ ?_ (by omega) (u3 j0 j1).symm (hR2.dfn (by omega) ?_ (by omega) 0)
          · rw [er2] at h1; simp only [List.length_cons] at h1; omega
          · rw [hkd]; split <;> omega
        have m137 : ¬ (a.k = 2 ∧ tkA X (LbE E) a.nm = true) → RR (M_labelled_137 N (M_labelled_0 N (m' + 1)) (nI a.p) (nI a.e) (b2 dg) σ2) (fun v σ' => LbP X σA sec ln (rdLab X sec ln (n + 1) (a :: r) E) v σ') := by
          intro hnt
          unfold M_labelled_137 M_labelled_161
          refine RR_y q14 ?_
          rw [q16]
          cases dg with
          | false =>
            have n4 : ¬ a.k = 4 := fun z => by have := hdg.mpr z; cases this
            refine RR_y rfl ?_
            have := go sec (by rw [if_neg n4, Nat.add_zero]) hnt
            rw [show nI sec + 0 = nI sec from by rw [show (0 : Int32) = nI 0 from rfl, nI_add, Nat.add_zero]]
            exact this
          | true =>
            have y4 : a.k = 4 := hdg.mp rfl
            refine RR_n (by decide) ?_
            have := go (sec + 3) (by rw [if_pos y4]) hnt
            rw [show nI sec + 3 = nI (sec + 3) from nI_add sec 3]
            exact this
        cases hdgv : dg with
        | true =>
          rw [hdgv] at m137 hdg
          have y4 : a.k = 4 := hdg.mp rfl
          refine RR_n (by decide) (m137 (fun z => ?_))
          rw [y4] at z
          exact absurd z.1 (by decide)
        | false =>
          rw [hdgv] at m137 hdg
          have n4 : ¬ a.k = 4 := fun z => by have := hdg.mpr z; cases this
          have k2 : a.k = 2 := by rcases hk24 with z | z; exact z; exact absurd z n4
          obtain ⟨g1, g2, g3, g4, g5⟩ := hTF.2.2.2 k2
          have hpl : ∀ c ∈ cut X a.p a.e, isPl c = true := cut_pl X (by omega) (by omega)
          have taken : tkA X (LbE E) a.nm = true → RR (M_labelled_132 N (M_labelled_0 N (m' + 1)) (nI a.p) (nI a.e) (b2 false) σ2) (fun v σ' => LbP X σA sec ln (rdLab X sec ln (n + 1) (a :: r) E) v σ') := by
            intro ht
            have et : rdLab X sec ln (n + 1) (a :: r) E = (4, none, [], E) := by
              rw [er2, rdLab_c X sec ln n E k0 hk24, if_pos c58, if_pos ⟨k2, ht⟩]
            unfold M_labelled_132 M_labelled_137 M_labelled_166
            refine RR_then (R_blame (E := E) (sec := sec) (q := q) q14 q15 kf2 u2.pos 4 (k := 4) rfl) (fun _ σ3 h3 => ?_)
            refine RR_n (by rw [h3.1.2.2]; exact fl_ne a12 4 (by omega)) ?_
            rw [lab_fault (fl_ne a12 4 (by omega)) h3.1, et]
            refine RR_ret ?_
            unfold LbP
            rw [if_pos (show (4 : Nat) ≠ 0 by decide)]
            exact ⟨rfl, h3.1⟩
          have oin := oI_neg (fnd X a.nm (LbE E) 0) (fun k hk => by have := fnd_lt X a.nm (LbE E) 0 k hk; have := a3.2.1; omega)
          refine RR_y rfl ?_
          rw [M_register_eq hR2.2.1 (by omega) (by omega) v9, M_find_eq hR2.2.1 hN hR2.2.2.1 (by omega) v9 hpl, ← g1]
          simp only [cr, Option.bind_some]
          refine RR_if (fun c => taken ?_) (fun c => RR_if (fun d => m137 (fun z => ?_)) (fun d => taken ?_))
          · unfold tkA; rw [decide_eq_true c]; rfl
          · have := z.2
            unfold tkA at this
            rw [decide_eq_false c, oin.1.mp d] at this
            cases this
          · unfold tkA; rw [decide_eq_false c]
            cases hf : fnd X a.nm (LbE E) 0 with
            | none => exact absurd (oin.1.mpr hf) d
            | some k => rfl
      · refine RR_n (fun z => c58 (tok.mp z)) ?_
        unfold M_labelled_91 M_labelled_108
        cases hdgv : dg with
        | false =>
          rw [hdgv] at hdg
          have n4 : ¬ a.k = 4 := fun z => by have := hdg.mpr z; cases this
          have k2 : a.k = 2 := by rcases hk24 with z | z; exact z; exact absurd z n4
          have et : rdLab X sec ln (n + 1) (a :: r) E = (0, some a, r, E) := by
            rw [er2, rdLab_c X sec ln n E k0 hk24, if_neg c58, if_neg n4]
          refine RR_y rfl (RR_bnd (RR_y (show (sF σ2 9 (nI a.p)).1 14 = 0 from q14) (RR_gd (by decide) (RR_ret ?_))))
          rw [et]
          unfold LbP
          rw [if_neg (fun z => z rfl)]
          refine ⟨rfl, ?_, ?_, k2⟩
          · refine h0.to v7 (by omega) (fun j j1 j2 j3 j4 j5 => ?_) ?_ (sF_at _ _ _)
            · rw [sF_ne _ _ j1, u2.1 j j1 j2 j3 j4 j5, s2.1 j j1 j2 j3 j4 j5]
            · show σ2.2 = σ.2; rw [u2.2.1, s2.2.1]
          · obtain ⟨-, -, -, -, -, -, -, -, -, hsk⟩ := s2.2.2.2.2 k0 k1
            show lexS X a.p = a :: r
            rw [hsk, ← lexS_skip]
            exact e
        | true =>
          rw [hdgv] at hdg
          have y4 : a.k = 4 := hdg.mp rfl
          have et : rdLab X sec ln (n + 1) (a :: r) E = (1, none, [], E) := by
            rw [er2, rdLab_c X sec ln n E k0 hk24, if_neg c58, if_pos y4]
          refine RR_n (by decide) ?_
          refine RR_then (k := fun _ σ3 => bnd (sF σ3 9 (nI a.p)) (fun σ1 => if σ1.1 14 = 0 then gd (isB 1) (some ((1 : Int32), σ1)) else gd (isB 0) (some ((0 : Int32), σ1)))) (R_blame (E := E) (sec := sec) (q := q) q14 q15 kf2 u2.pos 1 (k := 1) rfl) (fun _ σ3 h3 => RR_bnd (RR_n ?_ (RR_gd (by decide) (RR_ret ?_))))
          · show ¬ (sF σ3 9 (nI a.p)).1 14 = 0
            rw [sF_ne _ _ (by decide), h3.1.2.2]
            exact fl_ne a12 1 (by omega)
          · rw [et]
            unfold LbP
            rw [if_pos (show (1 : Nat) ≠ 0 by decide)]
            refine ⟨rfl, h3.1.1.tr ⟨sF_ne _ _ (by decide), sF_ne _ _ (by decide), sF_ne _ _ (by decide), rfl, rfl⟩, ⟨a.p, by omega, sF_at _ _ _⟩, ?_⟩
            rw [sF_ne _ _ (by decide)]
            exact h3.1.2.2
    by_cases k2 : a.k = 2
    · refine RR_n (by rw [v1, f1.mpr k2]; decide) ?_
      unfold M_labelled_42 M_labelled_43
      refine RR_n (by rw [v1, f1.mpr k2]; decide) (RR_y (by rw [v1]; exact f1.mpr k2) ?_)
      rw [v3, v4]
      exact lab false ⟨fun z => (by cases z), fun z => (by rw [k2] at z; exact absurd z (by decide))⟩ (Or.inl k2)
    by_cases k34 : a.k = 3 ∨ a.k = 4
    · have hd := dig1 e k34
      refine RR_y (by rw [v1]; exact f2.mpr k34) ?_
      rw [v3, v4, pk_sub (by omega)]
      refine RR_if (fun c => ?_) (fun c => ?_)
      · have c1 : a.e - a.p = 1 := by
          rw [show (1 : Int32) = nI 1 from rfl, nI_eq (by omega) (by omega)] at c
          exact c
        have y4 : a.k = 4 := hd.mp (by omega)
        unfold M_labelled_43
        refine RR_n (by rw [v1, f2.mpr k34]; decide) (RR_n (by rw [v1, f2.mpr k34]; decide) (RR_n (by decide) ?_))
        exact lab true ⟨fun _ => y4, fun _ => rfl⟩ (Or.inr y4)
      · have n4 : ¬ a.k = 4 := by
          intro z
          apply c
          have := hd.mpr z
          rw [show (1 : Int32) = nI 1 from rfl, nI_eq (by omega) (by omega)]
          omega
        unfold M_labelled_42
        have := bad (1, none, [], E) rfl (rdLab_bad X sec ln n E k0 (fun z => by rcases z with z | z; exact k2 z; exact n4 z)) (by rw [v1, f2.mpr k34]; decide) (by rw [v1, f2.mpr k34]; decide)
        rw [v3, v4] at this
        exact this
    · refine RR_n (by rw [v1]; exact fun z => k34 (f2.mp z)) ?_
      unfold M_labelled_42
      exact bad (1, none, [], E) rfl (rdLab_bad X sec ln n E k0 (fun z => by rcases z with z | z; exact k2 z; exact k34 (Or.inr z))) (by rw [v1]; exact fun z => k0 (f0.mp z)) (by rw [v1]; exact fun z => k2 (f1.mp z))
end
