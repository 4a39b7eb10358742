/-! ===== the class's parser: a line ===== -/
def TkF (X : List Int32) (ts : List AT) : Prop := HasE ts ∧ NrF ts ∧ (∀ a ∈ ts, levN (AT.k a) < 7) ∧ (∀ a ∈ ts, AT.k a = 2 → nmAt X (AT.p a) = AT.nm a) ∧ ∀ a ∈ ts, AT.k a = 4 → isDg (tw X (AT.p a)) = true ∧ AT.v a = tw X (AT.p a) - 48
theorem TkF.tl {X : List Int32} {a : AT} {r : List AT} (h : TkF X (a :: r)) (h0 : a.k ≠ 0) : TkF X r := by
  obtain ⟨h1, h2, h3, h4, h5⟩ := h
  exact ⟨h1.tl h0, fun z hz => h2 z (List.mem_cons_of_mem _ hz), fun z hz => h3 z (List.mem_cons_of_mem _ hz), fun z hz => h4 z (List.mem_cons_of_mem _ hz), fun z hz => h5 z (List.mem_cons_of_mem _ hz)⟩
abbrev tsL (L : Nat × Option AT × List AT × List Ev) : List AT := L.2.1.elim L.2.2.1 (fun a => a :: L.2.2.1)
section
variable {N : Nat} {X : List Int32} {ns : List (List Int32)} {Y K V op re od : List Int32} {sF sR : CS} {x y ln sec : Nat}
/-- a line's end with a fault -/
theorem C_flt {f : Nat} (hf : f ≠ 0) (hf15 : f ≤ 15) {sF sN sT sP sI sN0 sT0 : CS} (hq : TQ sT0 sT) (hcap : nq sN = nq sN0) (hb : CBd ns Y op re od sF sN sT sP sI) {Q : Int32 → CS × CS × CS × CS × CS → Nat × Nat → Prop} (bad : ∀ v u, v = nI f → TQ sT0 u.2.2.1 → nq u.2.1 = nq sN0 → CBd ns Y op re od u.1 u.2.1 u.2.2.1 u.2.2.2.1 u.2.2.2.2 → Q v u (tp u.1 u.2.2.2.1 u.2.2.2.2 x y)) : RC (tp sF sP sI x y) (C_Par_readLine_64 N (nI f) sR sF sN sT sP sI) Q ∧ RC (tp sF sP sI x y) (C_Par_readLine_44 N (nI f) sR sF sN sT sP sI) Q := by
  have hne : ¬ nI f = 0 := fun z => hf ((fl_nI f hf15).mp z)
  have h64 : RC (tp sF sP sI x y) (C_Par_readLine_64 N (nI f) sR sF sN sT sP sI) Q := by
    unfold C_Par_readLine_64 C_Par_readLine_81
    refine RC_n hne ?_
    obtain ⟨b1, b2, ⟨ts, b3⟩, b4, b5, b6⟩ := hb
    obtain ⟨sT', t1, t2, t3, t4⟩ := T_skip b3 (j := 1) (by omega)
    change C_Tok_skip 1 sT = some (0, sT') at t1
    refine RC_cl t1 (RC_ret ?_)
    exact bad (nI f) (sF, sN, sT', sP, sI) rfl (hq.tr ⟨t3, t4⟩) hcap ⟨b1, b2, ⟨_, t2⟩, b4, b5, b6⟩
  refine ⟨h64, ?_⟩
  unfold C_Par_readLine_44
  exact RC_n hne h64
theorem C_labs (hN : 70000 < N) (hTb : Tbl ns op re od) (hsec : sec < 2) {sN0 sT0 : CS} {Q : Int32 → CS × CS × CS × CS × CS → Nat × Nat → Prop} : ∀ (n m cn : Nat) (ts : List AT) (E : List Ev) (so va : List Int32) (sN sT sP sI : CS), ts.length ≤ n → n < m → ts.length ≤ cn → cn < 2 ^ 30 → TkF X ts → CSt X ns Y K V so va op re od E sec sF sN sP sI → sP.1 4 = nI ln → TPos ns Y sT ts → cI E + ts.length < 4990 → TQ sT0 sT → nq sN = nq sN0 →
    (∀ so' va' sN' sT' sP' sI', (rdLab X sec ln n ts E).1 = 0 → TQ sT0 sT' → nq sN' = nq sN0 → sP'.1 4 = nI ln → CSt X ns Y K V so' va' op re od (rdLab X sec ln n ts E).2.2.2 sec sF sN' sP' sI' → TPos ns Y sT' (tsL (rdLab X sec ln n ts E)) → cI (rdLab X sec ln n ts E).2.2.2 + (tsL (rdLab X sec ln n ts E)).length ≤ cI E + ts.length → (tsL (rdLab X sec ln n ts E)).length ≤ ts.length → TkF X (tsL (rdLab X sec ln n ts E)) → RC (tp sF sP' sI' x y) (C_Par_readLine_44 N 0 sR sF sN' sT' sP' sI') Q) →
    ((rdLab X sec ln n ts E).1 ≠ 0 → ∀ v u, v = nI (rdLab X sec ln n ts E).1 → TQ sT0 u.2.2.1 → nq u.2.1 = nq sN0 → CBd ns Y op re od u.1 u.2.1 u.2.2.1 u.2.2.2.1 u.2.2.2.2 → Q v u (tp u.1 u.2.2.2.1 u.2.2.2.2 x y)) →
    RC (tp sF sP sI x y) (C_Par_readLine_18 N m 0 (nI cn) sR sF sN sT sP sI) Q := by
  intro n
  induction n with
  | zero =>
    intro m cn ts E so va sN sT sP sI hl _ _ _ hK
    obtain ⟨⟨a, ha, -⟩, -⟩ := hK
    cases ts with
    | nil => cases ha
    | cons _ _ => simp at hl
  | succ n ih =>
    intro m cn ts E so va sN sT sP sI hl hm hcn hcb hK hS hln hT hb hq hcap good bad
    obtain ⟨m', rfl⟩ : ∃ m', m = m' + 1 := ⟨m - 1, by omega⟩
    obtain ⟨a, r, rfl⟩ : ∃ a r, ts = a :: r := by
      obtain ⟨⟨a, ha, -⟩, -⟩ := hK
      cases ts with
      | nil => cases ha
      | cons a r => exact ⟨a, r, rfl⟩
    simp only [List.length_cons] at hl hcn hb
    obtain ⟨cn', rfl⟩ : ∃ cn', cn = cn' + 1 := ⟨cn - 1, by omega⟩
    rw [C_Par_readLine_18]
    refine RC_n ?_ (RC_y rfl ?_)
    · exact Int32.not_le.mpr ((nI_ltI (a := 0) (by omega) (by omega)).mpr (by omega))
    have hk0 := T_kind hT (j := 0) (by omega)
    change C_Tok_kind 0 sT = some a.k at hk0
    have hk1 := T_kind hT (j := 1) (by omega)
    change C_Tok_kind 1 sT = some (kAt r 0) at hk1
    have eIs : C_Par_isLabel sR sF sN sT sP sI = some (b2 (decide (a.k ≠ 0 ∧ kAt r 0 = 58))) := by
      unfold C_Par_isLabel C_Par_isLabel_28 C_Par_isLabel_29
      rw [hk0]
      simp only [cr, Option.bind_some]
      by_cases c0 : a.k = 0
      · rw [if_pos c0, decide_eq_false (fun z => z.1 c0)]; rfl
      · rw [if_neg c0, hk1]
        simp only [Option.bind_some]
        by_cases c58 : kAt r 0 = 58
        · rw [if_pos c58, decide_eq_true ⟨c0, c58⟩]; rfl
        · rw [if_neg c58, decide_eq_false (fun z => c58 z.2)]; rfl
    refine RC_cr eIs ?_
    by_cases hlab : a.k ≠ 0 ∧ kAt r 0 = 58
    · -- a label
      obtain ⟨c0, c58'⟩ := hlab
      obtain ⟨b, r2, rfl, c58, -⟩ := tk1_e c58' (by decide)
      refine RC_n (by rw [decide_eq_true ⟨c0, c58'⟩]; decide) ?_
      obtain ⟨v, wl, tv, tr, -⟩ := T_value hT (j := 0) (by omega) (a := a) (r := b :: r2) rfl
      change C_Tok_value 0 sT = some v at tv
      obtain ⟨sT', t1, t2, t3, t4⟩ := T_skip hT (j := 2) (by omega)
      change C_Tok_skip 2 sT = some (0, sT') at t1
      change TPos ns Y sT' r2 at t2
      have hK2 := (hK.tl c0).tl (by rw [c58]; decide)
      simp only [List.length_cons] at hl hcn hb
      have next : ∀ (E' : List Ev) (so' va' : List Int32) (sN' sP' sI' : CS), rdLab X sec ln (n + 1) (a :: b :: r2) E = rdLab X sec ln n r2 E' → cI E' = cI E + 1 → nq sN' = nq sN → sP'.1 4 = sP.1 4 → CSt X ns Y K V so' va' op re od E' sec sF sN' sP' sI' → RC (tp sF sP' sI' x y) (C_Par_readLine_18 N m' 0 (nI (cn' + 1) + -1) sR sF sN' sT' sP' sI') Q := by
        intro E' so' va' sN' sP' sI' hr hcE hcap' h4 hS'
        rw [pk_m1]
        rw [hr] at good bad
        refine ih m' cn' r2 E' so' va' sN' sT' sP' sI' (by omega) (by omega) (by omega) (by omega) hK2 hS' (h4.trans hln) t2 (by omega) (hq.tr ⟨t3, t4⟩) (hcap'.trans hcap) (fun so2 va2 sN2 sT2 sP2 sI2 g1 g2 g3 g4 g5 g6 g7 g8 g9 => good so2 va2 sN2 sT2 sP2 sI2 g1 g2 g3 g4 g5 g6 ?_ ?_ g9) bad
        · simp only [List.length_cons]; omega
        · simp only [List.length_cons]; omega
      unfold C_Par_readLabel
      have hmem : a ∈ a :: b :: r2 := List.mem_cons_self
      by_cases c4 : a.k = 4
      · have hr := rdLab_c X sec ln n (b := b) (r := r2) E c0 (Or.inr c4)
        rw [if_pos c58, if_neg (fun z => absurd (c4.symm.trans z.1) (by decide)), if_pos c4] at hr
        obtain ⟨d1, d2⟩ := hK.2.2.2.2 a hmem c4
        have hv : v = a.v := tr.v (Or.inr (Or.inl c4))
        have hnr : isNr ((sec + 3, a.p, ln, sec, 0, []) : Ev) = true := by unfold isNr; simp only []; exact decide_eq_true (by omega)
        have hbody : RC (tp sF sP sI x y) (C_Par_readLabel sR sF sN sT sP sI) (fun v u c => v = 0 ∧ c = tp sF u.2.2.1 u.2.2.2 x y ∧ u.1 = sN ∧ u.2.1 = sT' ∧ u.2.2.1.1 4 = sP.1 4 ∧ CSt X ns Y K V so va op re od (E ++ [(sec + 3, a.p, ln, sec, 0, [])]) sec sF sN u.2.2.1 u.2.2.2) := by
          unfold C_Par_readLabel
          refine RC_cr hk0 (RC_cr tv (RC_y c4 ?_))
          rw [hv]
          refine C_nearL (ln := ln) hS hsec (by omega) d1 d2 (k := fun sP' sI' => C_Par_readLabel_98 sR sF sN sT sP' sI') (fun sP' sI' h4 hS' => ?_)
          unfold C_Par_readLabel_98
          exact RC_cl t1 (RC_ret ⟨rfl, rfl, rfl, rfl, h4, hS'⟩)
        refine RC_then hbody (fun v u c hu => ?_)
        obtain ⟨rfl, rfl, u1, u2, u3, u4⟩ := hu
        rw [u1, u2]
        exact next _ so va sN u.2.2.1 u.2.2.2 hr (by rw [cI_snoc, nit_nr hnr]) rfl u3 u4
      · by_cases c2 : a.k = 2
        · have hr := rdLab_c X sec ln n (b := b) (r := r2) E c0 (Or.inl c2)
          rw [if_pos c58] at hr
          obtain ⟨i, hi1, hi2, hi3⟩ := tr.nm c2
          have hi3' : v = nI i := hi3
          obtain ⟨f1, f2⟩ := C_free hS.2.2.2.2.2.2.2.2.2.2 hTb hS.2.1 hi1
          rw [hi2] at f1 f2
          by_cases htk : tkA X (LbE E) a.nm = true
          · rw [if_pos ⟨c2, htk⟩] at hr
            have hbody : RC (tp sF sP sI x y) (C_Par_readLabel sR sF sN sT sP sI) (fun v u c => v = 4 ∧ c = tp sF u.2.2.1 u.2.2.2 x y ∧ u = (sN, sT, sP, sI)) := by
              unfold C_Par_readLabel
              refine RC_cr hk0 (RC_cr tv (RC_n c4 (RC_y c2 ?_)))
              rw [hi3']
              refine RC_cr f1 (RC_y (by rw [htk]; rfl) (RC_ret ⟨rfl, rfl, rfl⟩))
            refine RC_then hbody (fun v u c hu => ?_)
            obtain ⟨rfl, rfl, rfl⟩ := hu
            obtain ⟨m2, rfl⟩ : ∃ m2, m' = m2 + 1 := ⟨m' - 1, by omega⟩
            rw [pk_m1, C_Par_readLine_18]
            have hflt := (C_flt (N := N) (sR := sR) (x := x) (y := y) (f := 4) (by omega) (by omega) hq hcap (hS.bd hT) (Q := Q) (fun v u g1 g2 g3 g4 => bad (by rw [hr]; show (4 : Nat) ≠ 0; omega) v u (by rw [hr]; exact g1) g2 g3 g4)).2
            exact RC_if (fun _ => hflt) (fun _ => RC_n (by decide) hflt)
          · have htf : tkA X (LbE E) a.nm = false := by simpa using htk
            rw [if_neg (fun z => htk z.2), if_neg c4] at hr
            have hlb : ((sec, a.p, ln, sec, 0, []) : Ev).1 < 2 := hsec
            have hbody : RC (tp sF sP sI x y) (C_Par_readLabel sR sF sN sT sP sI) (fun v u c => v = 0 ∧ c = tp sF u.2.2.1 u.2.2.2 x y ∧ nq u.1 = nq sN ∧ u.2.1 = sT' ∧ u.2.2.1.1 4 = sP.1 4 ∧ CSt X ns Y K V (so.set i 1) (va.set i (nI (cI E))) op re od (E ++ [(sec, a.p, ln, sec, 0, [])]) sec sF u.1 u.2.2.1 u.2.2.2) := by
              unfold C_Par_readLabel
              refine RC_cr hk0 (RC_cr tv (RC_n c4 (RC_y c2 ?_)))
              rw [hi3']
              refine RC_cr f1 (RC_n (by rw [htf]; decide) ?_)
              refine C_named (ln := ln) hS hsec (by omega) hi1 hi2 (hK.2.2.2.1 a hmem c2) (f2 htf) (k := fun sN' sP' sI' => C_Par_readLabel_98 sR sF sN' sT sP' sI') (fun sN' sP' sI' h4 hc' hS' => ?_)
              unfold C_Par_readLabel_98
              exact RC_cl t1 (RC_ret ⟨rfl, rfl, hc', rfl, h4, hS'⟩)
            refine RC_then hbody (fun v u c hu => ?_)
            obtain ⟨rfl, rfl, u1, u2, u3, u4⟩ := hu
            rw [u2]
            exact next (E ++ [(sec, a.p, ln, sec, 0, [])]) _ _ u.1 u.2.2.1 u.2.2.2 hr (by rw [cI_snoc, nit_lb hlb]) u1 u3 u4
        · have hr := rdLab_bad X sec ln n (r := b :: r2) E c0 (fun z => z.elim c2 c4)
          have hbody : RC (tp sF sP sI x y) (C_Par_readLabel sR sF sN sT sP sI) (fun v u c => v = 1 ∧ c = tp sF u.2.2.1 u.2.2.2 x y ∧ u = (sN, sT, sP, sI)) := by
            unfold C_Par_readLabel
            exact RC_cr hk0 (RC_cr tv (RC_n c4 (RC_n c2 (RC_ret ⟨rfl, rfl, rfl⟩))))
          refine RC_then hbody (fun v u c hu => ?_)
          obtain ⟨rfl, rfl, rfl⟩ := hu
          obtain ⟨m2, rfl⟩ : ∃ m2, m' = m2 + 1 := ⟨m' - 1, by omega⟩
          rw [pk_m1, C_Par_readLine_18]
          have hflt := (C_flt (N := N) (sR := sR) (x := x) (y := y) (f := 1) (by omega) (by omega) hq hcap (hS.bd hT) (Q := Q) (fun v u g1 g2 g3 g4 => bad (by rw [hr]; show (1 : Nat) ≠ 0; omega) v u (by rw [hr]; exact g1) g2 g3 g4)).2
          exact RC_if (fun _ => hflt) (fun _ => RC_n (by decide) hflt)
    · refine RC_y (by rw [decide_eq_false hlab]; rfl) ?_
      have notst : a.k ≠ 0 → a.k ≠ 2 → (rdLab X sec ln (n + 1) (a :: r) E).1 = 1 → RC (tp sF sP sI x y) (C_Par_readLine_44 N 0 sR sF sN sT sP sI) Q := by
        intro c0 c2 hr
        unfold C_Par_readLine_44
        refine RC_y rfl (RC_cr hk0 (RC_n c0 ?_))
        have hbody : RC (tp sF sP sI x y) (C_Par_readStatement N sR sF sN sT sP sI) (fun v u c => v = 1 ∧ c = tp sF sP sI x y ∧ u = (sF, sN, sT, sP, sI)) := by
          unfold C_Par_readStatement
          exact RC_cr hk0 (RC_n c2 (RC_ret ⟨rfl, rfl, rfl⟩))
        refine RC_then hbody (fun v u c hu => ?_)
        obtain ⟨rfl, rfl, rfl⟩ := hu
        exact (C_flt (N := N) (sR := sR) (x := x) (y := y) (f := 1) (by omega) (by omega) hq hcap (hS.bd hT) (Q := Q) (fun v u g1 g2 g3 g4 => bad (by rw [hr]; omega) v u (by rw [hr]; exact g1) g2 g3 g4)).1
      by_cases c0 : a.k = 0
      · have hr := rdLab_0 X sec ln n (r := r) E c0
        refine good so va sN sT sP sI (by rw [hr]) hq hcap hln (by rw [hr]; exact hS) (by rw [hr]; exact hT) (by rw [hr]; exact Nat.le_refl _) (by rw [hr]; exact Nat.le_refl _) (by rw [hr]; exact hK)
      · have c58 : kAt r 0 ≠ 58 := fun z => hlab ⟨c0, z⟩
        by_cases c24 : a.k = 2 ∨ a.k = 4
        · cases r with
          | nil =>
            exfalso
            obtain ⟨b, hb1, hb2⟩ := (hK.tl c0).1
            cases hb1
          | cons b r2 =>
            have hr := rdLab_c X sec ln n (b := b) (r := r2) E c0 c24
            rw [if_neg (show ¬ b.k = 58 from c58)] at hr
            by_cases c4 : a.k = 4
            · rw [if_pos c4] at hr
              exact notst c0 (by rw [c4]; decide) (by rw [hr])
            · rw [if_neg c4] at hr
              exact good so va sN sT sP sI (by rw [hr]) hq hcap hln (by rw [hr]; exact hS) (by rw [hr]; exact hT) (by rw [hr]; exact Nat.le_refl _) (by rw [hr]; exact Nat.le_refl _) (by rw [hr]; exact hK)
        · exact notst c0 (fun z => c24 (Or.inl z)) (by rw [rdLab_bad X sec ln n E c0 c24])
def LnP (X : List Int32) (ns : List (List Int32)) (Y op re od : List Int32) (n0 : Nat) (R : Nat × List Ev × Nat × List AT) (sN0 sT0 : CS) (v : Int32) (u : CS × CS × CS × CS × CS) : Prop :=
  v = nI R.1 ∧ TQ sT0 u.2.2.1 ∧ nq u.2.1 = nq sN0 ∧ ((R.1 ≠ 0 ∧ CBd ns Y op re od u.1 u.2.1 u.2.2.1 u.2.2.2.1 u.2.2.2.2) ∨ (R.1 = 0 ∧ TPos ns Y u.2.2.1 R.2.2.2.tail ∧ ∃ K' V' so' va', CSt X ns Y K' V' so' va' op re od R.2.1 R.2.2.1 u.1 u.2.1 u.2.2.2.1 u.2.2.2.2 ∧ K'.length + R.2.2.2.length ≤ n0))
end
