/-! ===== the class's compile, its loop ===== -/
theorem stl_head {l : Nat} : ∀ (S : List Int32) (R : List XSt) (s : Int32) (S2 : List Int32), (stl l S R).1 = s :: S2 → levN s < l
  | [], R, s, S2, h => by cases h
  | t :: S, R, s, S2, h => by
    rw [stl] at h
    by_cases hc : levN t < l
    · rw [if_pos hc] at h
      injection h with h1 h2
      rw [← h1]; exact hc
    · rw [if_neg hc] at h
      exact stl_head S _ s S2 h
theorem lev_ok {s : Int32} (h : 0 < levN s) : okS s := by
  unfold levN at h
  unfold okS
  by_cases c1 : s = 10 ∨ s = 11 ∨ s = 12 ∨ s = 13
  · rcases c1 with e | e | e | e <;> simp [e]
  rw [if_neg c1] at h
  by_cases c2 : s = 42 ∨ s = 47 ∨ s = 37
  · rcases c2 with e | e | e <;> simp [e]
  rw [if_neg c2] at h
  by_cases c3 : s = 43 ∨ s = 45
  · rcases c3 with e | e <;> simp [e]
  rw [if_neg c3] at h
  by_cases c4 : s = 60 ∨ s = 62
  · rcases c4 with e | e <;> simp [e]
  rw [if_neg c4] at h
  by_cases c5 : s = 38
  · simp [c5]
  rw [if_neg c5] at h
  by_cases c6 : s = 94
  · simp [c6]
  rw [if_neg c6] at h
  by_cases c7 : s = 124
  · simp [c7]
  rw [if_neg c7] at h
  omega
def FVal (sF : CS) : Prop := ∃ K V S Z, FR4 sF K V S Z
def TQ (sT sT' : CS) : Prop := sT'.2 = sT.2 ∧ sT'.1 0 = sT.1 0
theorem TQ.rf (sT : CS) : TQ sT sT := ⟨rfl, rfl⟩
theorem TQ.tr {a b c : CS} (h1 : TQ a b) (h2 : TQ b c) : TQ a c := ⟨h2.1.trans h1.1, h2.2.trans h1.2⟩
section
variable {N : Nat} {ns : List (List Int32)} {nr : Nat → Nat} {Y so va op re od K0 V0 Z : List Int32} {sN sP sI : CS} {x y : Nat} {lo : AT → Bool}
def CmpG (ns : List (List Int32)) (nr : Nat → Nat) (Y K0 V0 Z : List Int32) (lo : AT → Bool) (sT : CS) (R : List XSt) (rest : List AT) (v : Int32) (u : CS × CS) : Prop := v = 1 ∧ TPos ns Y u.2 rest ∧ TQ sT u.2 ∧ u.1.1 0 = b2 (!(R.any (lz lo))) ∧ ∃ K' V' S', FR4 u.1 (K0 ++ K') (V0 ++ V') S' Z ∧ StpL ns nr K' V' R
def CmpB (ns : List (List Int32)) (Y : List Int32) (sT : CS) (v : Int32) (u : CS × CS) : Prop := v = 0 ∧ FVal u.1 ∧ TQ sT u.2 ∧ ∃ ts', TPos ns Y u.2 ts'
def CmpP (ns : List (List Int32)) (nr : Nat → Nat) (Y K0 V0 Z : List Int32) (lo : AT → Bool) (sT : CS) (c : Option (List Int32 × List XSt × Nat × List AT)) (v : Int32) (u : CS × CS) : Prop := match c with
  | none => CmpB ns Y sT v u
  | some (S1, R1, o1, rest) => if 0 < o1 then CmpB ns Y sT v u else CmpG ns nr Y K0 V0 Z lo sT (stl 1 S1 R1).2 rest v u
theorem C_latest {d : Nat} (hP : sP.2.2 20 = 10 ∧ ∀ d, d < 10 → sP.2.1 20 d = nI (nr d)) (hd : d < 10) : C_Prg_latest (nI d) sP sI = some (nI (nr d)) := by
  unfold C_Prg_latest C_Prg_latest_22 C_Prg_latest_23
  rw [if_neg (nI_pos (by omega)), hP.1, if_neg (by rw [nI_leI (by omega) (by omega)]; omega), gd_t (inB_nI hd (by omega)), nI_clamp (by omega), hP.2 d hd]
set_option maxHeartbeats 2000000 in
theorem C_cmp (hN : 70000 < N) (hNm : NmS sN ns so va op re od) (hP : sP.2.2 20 = 10 ∧ ∀ d, d < 10 → sP.2.1 20 d = nI (nr d)) (hlo : ∀ (a : AT) (i : Nat), i < ns.length → ns.getD i [] = a.nm → (lo a = true ↔ (a.nm = dotB ∨ so.getD i 0 ≠ 2))) :
    ∀ (n : Nat) (ts : List AT) (w : Bool) (o : Nat) (S : List Int32) (R : List XSt) (m cn : Nat) (K V : List Int32) (sF sT : CS), ts.length ≤ n → HasE ts → NrF ts → TPos ns Y sT ts → FR4 sF (K0 ++ K) (V0 ++ V) S.reverse Z → StpL ns nr K V R → (∀ s ∈ S, okS s) → o = c40 S → sF.1 0 = b2 (!(R.any (lz lo))) → sF.1 2 = b2 w → sF.1 3 = nI o → ts.length ≤ cn → cn < 2 ^ 30 → n < m → (K0 ++ K).length + S.length + ts.length ≤ 60000 → (V0 ++ V).length + S.length + ts.length ≤ 60000 →
    RC (fp sF x y) (C_Frm_compile_33 N m 1 (nI cn) sF sN sT sP sI) (fun v u c => c = fp u.1 x y ∧ CmpP ns nr Y K0 V0 Z lo sT (cmpA n ts w o S R) v u) := by
  obtain ⟨hNL, ⟨dd, hd1, hd2, hd3⟩, ⟨dh, hh1, hh2, hh3⟩, ⟨dl', hl1, hl2, hl3⟩⟩ := hNm
  have hnd := hNL.nodup
  have hsm := hNL.small.1
  intro n
  induction n with
  | zero =>
    intro ts w o S R m cn K V sF sT h1 h2
    obtain ⟨a, ha, -⟩ := h2
    cases ts with
    | nil => cases ha
    | cons b r => simp at h1
  | succ n ih =>
    intro ts w o S R m cn K V sF sT hlen hE hNr hT hF hS hok ho h0 hw2 h3 hcn hcb hm hk hv
    obtain ⟨m', rfl⟩ : ∃ m', m = m' + 1 := ⟨m - 1, by omega⟩
    cases ts with
    | nil => obtain ⟨a, ha, -⟩ := hE; cases ha
    | cons a r =>
      simp only [List.length_cons] at hlen hcn hk hv
      obtain ⟨cn', rfl⟩ : ∃ cn', cn = cn' + 1 := ⟨cn - 1, by omega⟩
      obtain ⟨f0, f1, f2, f3⟩ := hF
      have hNr' : NrF r := fun b hb => hNr b (List.mem_cons_of_mem _ hb)
      have hob : o ≤ S.length := by rw [ho]; unfold c40; exact List.length_filter_le _ _
      rw [C_Frm_compile_33]
      refine RC_n (by rw [show (0 : Int32) = nI 0 from rfl, nI_leI (by omega) (by omega)]; omega) (RC_n (by decide) ?_)
      refine RC_cr (by have := T_kind hT (j := 0) (by omega); rw [kAt_0] at this; exact this) ?_
      -- the failing end
      have bad : ∀ (sF' : CS), FVal sF' → RC (fp sF' x y) (C_Frm_compile_81 N sF' sN sT sP sI) (fun v u c => c = fp u.1 x y ∧ CmpB ns Y sT v u) := fun sF' hv' => RC_ret ⟨rfl, rfl, hv', TQ.rf _, _, hT⟩
      -- one token more
      have nxG : ∀ (sTa : CS) (b : AT) (r' : List AT) (w' : Bool) (o' : Nat) (S' : List Int32) (R' : List XSt) (K' V' : List Int32) (sF' : CS), TPos ns Y sTa (b :: r') → TQ sT sTa → HasE r' → NrF r' → r'.length ≤ r.length → FR4 sF' (K0 ++ K') (V0 ++ V') S'.reverse Z → StpL ns nr K' V' R' → (∀ s ∈ S', okS s) → o' = c40 S' → sF'.1 0 = b2 (!(R'.any (lz lo))) → sF'.1 2 = b2 w' → sF'.1 3 = nI o' → (K0 ++ K').length + S'.length + r'.length ≤ 60000 → (V0 ++ V').length + S'.length + r'.length ≤ 60000 → RC (fp sF' x y) (C_Frm_compile_163 N (C_Frm_compile_33 N m') 1 (nI (cn' + 1)) sF' sN sTa sP sI) (fun v u c => c = fp u.1 x y ∧ CmpP ns nr Y K0 V0 Z lo sT (cmpA n r' w' o' S' R') v u) := by
        intro sTa b r' w' o' S' R' K' V' sF' hTa hTq hEr hNrr hrl g1 g2 g3 g4 g5 g6 g7 g8 g9
        unfold C_Frm_compile_163 C_Frm_compile_175
        refine RC_n (by decide) ?_
        obtain ⟨sT', t1, t2, t3, t4⟩ := T_skip hTa (j := 1) (by omega)
        refine RC_cl t1 ?_
        rw [pk_m1]
        refine RC_imp (ih r' w' o' S' R' m' cn' K' V' sF' sT' (by omega) hEr hNrr t2 g1 g2 g3 g4 g5 g6 g7 (by omega) (by omega) (by omega) g8 g9) (fun v u c h => ⟨h.1, ?_⟩)
        have tq : TQ sT sT' := hTq.tr ⟨t3, t4⟩
        have hc := h.2
        generalize cmpA n r' w' o' S' R' = z at hc
        unfold CmpP at hc ⊢
        match z, hc with
        | none, hc => exact ⟨hc.1, hc.2.1, tq.tr hc.2.2.1, hc.2.2.2⟩
        | some (S1, R1, o1, rest), hc =>
          simp only [] at hc ⊢
          split at hc
          · rename_i h01
            rw [if_pos h01]
            exact ⟨hc.1, hc.2.1, tq.tr hc.2.2.1, hc.2.2.2⟩
          · rename_i h01
            rw [if_neg h01]
            exact ⟨hc.1, hc.2.1, tq.tr hc.2.2.1, hc.2.2.2⟩
      have nx : ∀ (w' : Bool) (o' : Nat) (S' : List Int32) (R' : List XSt) (K' V' : List Int32) (sF' : CS), a.k ≠ 0 → FR4 sF' (K0 ++ K') (V0 ++ V') S'.reverse Z → StpL ns nr K' V' R' → (∀ s ∈ S', okS s) → o' = c40 S' → sF'.1 0 = b2 (!(R'.any (lz lo))) → sF'.1 2 = b2 w' → sF'.1 3 = nI o' → (K0 ++ K').length + S'.length + r.length ≤ 60000 → (V0 ++ V').length + S'.length + r.length ≤ 60000 → RC (fp sF' x y) (C_Frm_compile_163 N (C_Frm_compile_33 N m') 1 (nI (cn' + 1)) sF' sN sT sP sI) (fun v u c => c = fp u.1 x y ∧ CmpP ns nr Y K0 V0 Z lo sT (cmpA n r w' o' S' R') v u) := fun w' o' S' R' K' V' sF' ha => nxG sT a r w' o' S' R' K' V' sF' hT (TQ.rf _) (hE.tl ha) hNr' (Nat.le_refl _)
      cases w with
      | false =>
        refine RC_y (by rw [hw2]; rfl) ?_
        rw [cmpA]
        have lev130 : ¬ (a.k = 41 ∧ 0 < o) → RC (fp sF x y) (C_Frm_compile_130 N (C_Frm_compile_33 N m') 1 (nI (cn' + 1)) a.k sF sN sT sP sI) (fun v u c => c = fp u.1 x y ∧ CmpP ns nr Y K0 V0 Z lo sT (if 0 < levN a.k then cmpA n r true o (a.k :: (stl (levN a.k) S R).1) (stl (levN a.k) S R).2 else some (S, R, o, a :: r)) v u) := by
          intro hnc
          unfold C_Frm_compile_130
          have hlv := levN_le a.k
          refine RC_cr (C_level a.k) ?_
          by_cases hl0 : 0 < levN a.k
          · refine RC_n (by rw [show (0 : Int32) = nI 0 from rfl, nI_leI (by omega) (by omega)]; omega) ?_
            rw [if_pos hl0]
            refine RC_cr (C_level a.k) ?_
            have hset := C_settleS (x := x) (y := y) (sN := sN) (sP := sP) (sI := sI) (sT := sT) hlv hN ⟨f0, f1, f2, f3⟩ hS hok (by omega) (by omega)
            refine RC_then hset (fun _ u c hu => ?_)
            obtain ⟨rfl, u0, K', V', ⟨q0, q1, q2, q3⟩, hS'⟩ := hu
            obtain ⟨ok1, ok2⟩ := stl_ok (l := levN a.k) S R hok
            have hlS := StpL_len hS
            have hlS' := StpL_len hS'
            simp only [List.length_append] at hk hv
            refine RC_Fadd (by omega) q2 (by rw [List.length_reverse]; omega) a.k (fun sF1 b1 b2' b3 => RC_bnd ?_)
            have hlev : okS a.k := lev_ok hl0
            rw [← fp_cF sF1 2 1]
            refine nx true o (a.k :: (stl (levN a.k) S R).1) (stl (levN a.k) S R).2 K' V' (cF sF1 2 1) ?_ ⟨?_, ?_, ?_, ?_⟩ hS' ?_ ?_ ?_ rfl ?_ ?_ ?_
            · intro z; rw [z] at hl0; exact absurd hl0 (by decide)
            · rw [rg_cF (by decide), b2' 0 (by decide)]; exact q0
            · rw [rg_cF (by decide), b2' 1 (by decide)]; exact q1
            · rw [rg_cF (by decide), List.reverse_cons]; exact b1
            · rw [rg_cF (by decide), b2' 3 (by decide)]; exact q3
            · intro s hs
              rcases List.mem_cons.mp hs with rfl | hs
              · exact hlev
              · exact ok1 s hs
            · rw [c40_skip (by intro z; rw [z] at hl0; exact absurd hl0 (by decide)), stl_c40 (by omega)]; exact ho
            · show sF1.1 0 = _
              rw [b3 0 (by omega), u0 0 (by omega), stl_anyO S R hok]; exact h0
            · show sF1.1 3 = _
              rw [b3 3 (by omega), u0 3 (by omega)]; exact h3
            · simp only [List.length_append, List.length_cons]; omega
            · simp only [List.length_append, List.length_cons]; omega
          · refine RC_y (by rw [show levN a.k = 0 by omega]; decide) ?_
            rw [if_neg hl0]
            unfold C_Frm_compile_163 C_Frm_compile_175
            refine RC_y rfl ?_
            rw [pk_m1]
            obtain ⟨m'', rfl⟩ : ∃ m'', m' = m'' + 1 := ⟨m' - 1, by omega⟩
            rw [C_Frm_compile_33]
            have fin : RC (fp sF x y) (C_Frm_compile_181 N sF sN sT sP sI) (fun v u c => c = fp u.1 x y ∧ CmpP ns nr Y K0 V0 Z lo sT (some (S, R, o, a :: r)) v u) := by
              unfold C_Frm_compile_181 C_Frm_compile_204 C_Frm_compile_205
              have hset := C_settleS (x := x) (y := y) (sN := sN) (sP := sP) (sI := sI) (sT := sT) (l := 1) (by omega) hN ⟨f0, f1, f2, f3⟩ hS hok (by omega) (by omega)
              refine RC_then hset (fun _ u c hu => ?_)
              obtain ⟨rfl, u0, K', V', hF', hS'⟩ := hu
              refine RC_y (by rw [u0 2 (by omega), hw2]; rfl) ?_
              unfold CmpP
              simp only []
              by_cases ho0 : 0 < o
              · refine RC_n (by rw [u0 3 (by omega), h3, show (0 : Int32) = nI 0 from rfl, nI_eq (by omega) (by omega)]; omega) (RC_gd (by decide) (RC_ret ⟨rfl, ?_⟩))
                rw [if_pos ho0]
                exact ⟨rfl, ⟨_, _, _, _, hF'⟩, TQ.rf _, _, hT⟩
              · refine RC_y (by rw [u0 3 (by omega), h3, show o = 0 by omega]; rfl) (RC_gd (by decide) (RC_ret ⟨rfl, ?_⟩))
                rw [if_neg ho0]
                refine ⟨rfl, hT, TQ.rf _, ?_, K', V', _, hF', hS'⟩
                rw [u0 0 (by omega), stl_anyO S R hok]; exact h0
            refine RC_if (fun _ => fin) (fun _ => RC_y rfl fin)
        by_cases c41 : a.k = 41
        · refine RC_y c41 ?_
          by_cases ho0 : 0 < o
          · refine RC_n (by rw [h3, show (0 : Int32) = nI 0 from rfl, nI_leI (by omega) (by omega)]; omega) ?_
            rw [if_pos ⟨c41, ho0⟩]
            have hset := C_settleS (x := x) (y := y) (sN := sN) (sP := sP) (sI := sI) (sT := sT) (l := 1) (by omega) hN ⟨f0, f1, f2, f3⟩ hS hok (by omega) (by omega)
            refine RC_then hset (fun _ u c hu => ?_)
            obtain ⟨rfl, u0, K', V', ⟨q0, q1, q2, q3⟩, hS'⟩ := hu
            obtain ⟨ok1, ok2⟩ := stl_ok (l := 1) S R hok
            have hc4 : c40 (stl 1 S R).1 = c40 S := stl_c40 (by omega) S R
            have hany := stl_anyO (lo := lo) (l := 1) S R hok
            have hlS := StpL_len hS
            have hlS' := StpL_len hS'
            have hhd := stl_head (l := 1) S R
            generalize stl 1 S R = st at *
            cases hst : st.1 with
            | nil => rw [hst] at hc4; rw [← hc4] at ho; rw [ho] at ho0; exact absurd ho0 (by decide)
            | cons s S2 =>
              have hs40 : s = 40 := by
                have h1 := hhd s S2 hst
                have h2 := ok1 s (by rw [hst]; exact List.mem_cons_self)
                exact ((okS_facts h2).2.2.2).mp (by omega)
              rw [hst] at q2 ok2 hc4
              have e102 : u.1 102 - 1 = nI S2.length := by
                have := q2.cnt
                rw [show u.1 102 = nI (s :: S2).reverse.length from this, List.length_reverse, List.length_cons, nI_pred]
              rw [e102]
              simp only [List.length_append, List.length_cons] at hk hv ok2
              refine RC_Fcut (by omega) q2 (by omega) (fun sF1 c1 c2 c3 => RC_bnd ?_)
              have er : (s :: S2).reverse.take S2.length = S2.reverse := by
                rw [List.reverse_cons, List.take_append_of_le_length (by simp), List.take_of_length_le (by simp)]
              rw [er] at c1
              obtain ⟨o', rfl⟩ : ∃ o', o = o' + 1 := ⟨o - 1, by omega⟩
              rw [← fp_cF sF1 3 (sF1.1 3 - 1), Nat.add_sub_cancel, List.tail_cons]
              refine nx false o' S2 st.2 K' V' (cF sF1 3 (sF1.1 3 - 1)) (by rw [c41]; decide) ⟨?_, ?_, ?_, ?_⟩ hS' (fun t ht => ok1 t (by rw [hst]; exact List.mem_cons_of_mem _ ht)) ?_ ?_ ?_ ?_ ?_ ?_
              · rw [rg_cF (by decide), c2 0 (by decide)]; exact q0
              · rw [rg_cF (by decide), c2 1 (by decide)]; exact q1
              · rw [rg_cF (by decide)]; exact c1
              · rw [rg_cF (by decide), c2 3 (by decide)]; exact q3
              · rw [hs40, c40_cons] at hc4; omega
              · show sF1.1 0 = _
                rw [c3 0 (by omega), u0 0 (by omega), hany]; exact h0
              · show sF1.1 2 = _
                rw [c3 2 (by omega), u0 2 (by omega)]; exact hw2
              · rw [cF_at, c3 3 (by omega), u0 3 (by omega), h3, nI_pred]
              · simp only [List.length_append]; omega
              · simp only [List.length_append]; omega
          · refine RC_y (by rw [h3, show o = 0 by omega]; decide) ?_
            rw [if_neg (fun z => ho0 z.2)]
            exact lev130 (fun z => ho0 z.2)
        · refine RC_n c41 ?_
          rw [if_neg (fun z => c41 z.1)]
          exact lev130 (fun z => c41 z.1)
      | true =>
        refine RC_n (by rw [hw2]; decide) ?_
        obtain ⟨v, wl, tv, tr, -⟩ := T_value hT (j := 0) (by omega) (a := a) (r := r) rfl
        change C_Tok_value 0 sT = some v at tv
        have hlS := StpL_len hS
        simp only [List.length_append] at hk hv
        rw [cmpA]
        by_cases c37 : a.k = 37
        · refine RC_y c37 ?_
          rw [if_pos c37]
          unfold C_Frm_takePart
          -- the name behind it
          have fail : RC (fp sF x y) (ct (C_Frm_takePart_60 sF sN sT sP sI) (fun r20 u21 => (if r20 = 0 then C_Frm_compile_81 N u21.1 sN u21.2 sP sI else C_Frm_compile_163 N (C_Frm_compile_33 N m') 1 (nI (cn' + 1)) u21.1 sN u21.2 sP sI))) (fun v u c => c = fp u.1 x y ∧ CmpB ns Y sT v u) := by
            unfold C_Frm_takePart_60
            exact RC_then (P := fun v u c => v = 0 ∧ u = (sF, sT) ∧ c = fp sF x y) (RC_ret ⟨rfl, rfl, rfl⟩) (fun v u c hu => by
              obtain ⟨rfl, rfl, rfl⟩ := hu
              exact RC_y rfl (bad sF ⟨_, _, _, _, f0, f1, f2, f3⟩))
          have neg1 : ∀ d, d < ns.length → ¬ (-1 : Int32) = nI d := fun d hd z => by
            have : (-1 : Int32) < 0 := by decide
            rw [z] at this
            exact nI_pos (by omega) this
          have minus : C_Frm_takePart_24 (-1) sF sN sT sP sI = C_Frm_takePart_60 sF sN sT sP sI := by
            unfold C_Frm_takePart_24
            rw [hh3, hl3, if_neg (neg1 _ hh1), if_neg (neg1 _ hl1)]
          have hk1 := T_kind hT (j := 1) (by omega)
          change C_Tok_kind 1 sT = some _ at hk1
          rw [hk1]
          simp only [cr, Option.bind_some]
          cases r with
          | nil =>
            rw [if_neg (show ¬ kAt [a] 1 = 2 by show ¬ ((0 : Int32) = 2); decide), minus]
            exact fail
          | cons b r2 =>
            rw [kAt_1]
            by_cases hb2 : b.k = 2
            · rw [if_pos hb2]
              obtain ⟨v2, wl2, tv2, tr2, -⟩ := T_value hT (j := 1) (by omega) (a := b) (r := r2) rfl
              change C_Tok_value 1 sT = some v2 at tv2
              obtain ⟨i, hi1, hi2, hi3⟩ := tr2.nm hb2
              have hi3' : v2 = nI i := hi3
              rw [tv2]
              simp only [Option.bind_some]
              unfold C_Frm_takePart_24
              rw [hh3, hl3, hi3']
              have eh := nm_eq hnd hsm hi1 hh1
              have el := nm_eq hnd hsm hi1 hl1
              rw [hi2, hh2] at eh
              rw [hi2, hl2] at el
              have hiS : hiB ≠ loB := by decide
              -- behind hi or lo
              have go : (b.nm = hiB ∨ b.nm = loB) → RC (fp sF x y) (ct (C_Frm_takePart_47 (nI i) sF sN sT sP sI) (fun r20 u21 => (if r20 = 0 then C_Frm_compile_81 N u21.1 sN u21.2 sP sI else C_Frm_compile_163 N (C_Frm_compile_33 N m') 1 (nI (cn' + 1)) u21.1 sN u21.2 sP sI))) (fun v u c => c = fp u.1 x y ∧ CmpP ns nr Y K0 V0 Z lo sT ((fst2 (b :: r2)).bind (fun x => if AT.k x.1 = 2 ∧ (AT.nm x.1 = hiB ∨ AT.nm x.1 = loB) ∧ AT.k x.2.1 = 40 then cmpA n x.2.2 true (o + 1) (40 :: (if AT.nm x.1 = hiB then 12 else 13) :: S) R else none)) v u) := by
                intro hnm
                unfold C_Frm_takePart_47
                have hk2 := T_kind hT (j := 2) (by omega)
                change C_Tok_kind 2 sT = some _ at hk2
                rw [hk2]
                simp only [cr, Option.bind_some]
                cases r2 with
                | nil =>
                  rw [if_neg (show ¬ kAt [a, b] 2 = 40 by show ¬ ((0 : Int32) = 40); decide)]
                  exact fail
                | cons c r3 =>
                  rw [show kAt (a :: b :: c :: r3) 2 = c.k from rfl]
                  show RC _ _ (fun v u cc => cc = fp u.1 x y ∧ CmpP ns nr Y K0 V0 Z lo sT (if b.k = 2 ∧ (b.nm = hiB ∨ b.nm = loB) ∧ c.k = 40 then cmpA n r3 true (o + 1) (40 :: (if b.nm = hiB then 12 else 13) :: S) R else none) v u)
                  by_cases hc40 : c.k = 40
                  · rw [if_pos hc40, hh3, if_pos (show b.k = 2 ∧ (b.nm = hiB ∨ b.nm = loB) ∧ c.k = 40 from ⟨hb2, hnm, hc40⟩)]
                    simp only [List.length_cons] at hk hv hlen hcn
                    have w84 : ∀ t1 : Int32, okS t1 → t1 ≠ 40 → RC (fp sF x y) (ct (C_Frm_takePart_84 t1 sF sN sT sP sI) (fun r20 u21 => (if r20 = 0 then C_Frm_compile_81 N u21.1 sN u21.2 sP sI else C_Frm_compile_163 N (C_Frm_compile_33 N m') 1 (nI (cn' + 1)) u21.1 sN u21.2 sP sI))) (fun v u cc => cc = fp u.1 x y ∧ CmpP ns nr Y K0 V0 Z lo sT (cmpA n r3 true (o + 1) (40 :: t1 :: S) R) v u) := by
                      intro t1 hok1 hne
                      unfold C_Frm_takePart_84
                      obtain ⟨sT2, t21, t22, t23, t24⟩ := T_skip hT (j := 2) (by omega)
                      change C_Tok_skip 2 sT = some (0, sT2) at t21
                      have step : RC (fp sF x y) (ct (C_Row_add t1 (rg sF 2)) (fun r1 u2 => bnd (rs sF 2 u2) (fun sF8 => ct (C_Row_add (40 : Int32) (rg sF8 2)) (fun r9 u10 => bnd (rs sF8 2 u10) (fun sF16 => bnd (cF sF16 3 ((sF16.1 3) + 1)) (fun sF17 => cl (C_Tok_skip (2 : Int32) sT) (fun r18 u19 => some (((1 : Int32), (sF17, u19)), (0, 0))))))))) (fun v u cc => v = 1 ∧ u.2 = sT2 ∧ cc = fp u.1 x y ∧ FR4 u.1 (K0 ++ K) (V0 ++ V) (40 :: t1 :: S).reverse Z ∧ u.1.1 0 = sF.1 0 ∧ u.1.1 2 = sF.1 2 ∧ u.1.1 3 = nI (o + 1)) := by
                        refine RC_Fadd (by omega) f2 (by rw [List.length_reverse]; omega) t1 (fun sF1 a1 a2 a3 => ?_)
                        refine RC_Fadd (by omega) a1 (by simp only [List.length_append, List.length_reverse, List.length_cons, List.length_nil]; omega) 40 (fun sF2 b1 b2' b3 => RC_bnd (RC_cl t21 ?_))
                        rw [← fp_cF sF2 3 (sF2.1 3 + 1)]
                        refine RC_ret ⟨rfl, rfl, rfl, ⟨?_, ?_, ?_, ?_⟩, ?_, ?_, ?_⟩
                        · rw [rg_cF (by decide), b2' 0 (by decide), a2 0 (by decide)]; exact f0
                        · rw [rg_cF (by decide), b2' 1 (by decide), a2 1 (by decide)]; exact f1
                        · rw [rg_cF (by decide), List.reverse_cons, List.reverse_cons]; exact b1
                        · rw [rg_cF (by decide), b2' 3 (by decide), a2 3 (by decide)]; exact f3
                        · show sF2.1 0 = _; rw [b3 0 (by omega), a3 0 (by omega)]
                        · show sF2.1 2 = _; rw [b3 2 (by omega), a3 2 (by omega)]
                        · rw [cF_at, b3 3 (by omega), a3 3 (by omega), h3, nI_1]
                      refine RC_then step (fun v u cc hu => ?_)
                      obtain ⟨u1, u2, u3, u4⟩ := u
                      obtain ⟨rfl, hu2, rfl, g1, g2, g3, g4⟩ := hu
                      refine RC_n (by decide) ?_
                      subst hu2
                      have hEr3 : HasE r3 := ((hE.tl (by rw [c37]; decide)).tl (by rw [hb2]; decide)).tl (by rw [hc40]; decide)
                      refine nxG _ c r3 true (o + 1) (40 :: t1 :: S) R K V _ t22 ⟨t23, t24⟩ hEr3 (fun d hd => hNr d (by simp [hd])) (by simp only [List.length_cons]; omega) g1 hS ?_ ?_ (g2.trans h0) (g3.trans hw2) g4 ?_ ?_
                      · intro s hs
                        rcases List.mem_cons.mp hs with rfl | hs
                        · exact Or.inl rfl
                        · rcases List.mem_cons.mp hs with rfl | hs
                          · exact hok1
                          · exact hok s hs
                      · rw [c40_cons, c40_skip hne, ho]
                      · simp only [List.length_append, List.length_cons]; omega
                      · simp only [List.length_append, List.length_cons]; omega
                    by_cases hnh : b.nm = hiB
                    · rw [if_pos (eh.mpr hnh), if_pos hnh]
                      exact w84 12 (by unfold okS; decide) (by decide)
                    · rw [if_neg (fun z => hnh (eh.mp z)), if_neg hnh]
                      exact w84 13 (by unfold okS; decide) (by decide)
                  · rw [if_neg hc40, if_neg (fun z => hc40 z.2.2)]
                    exact fail
              by_cases hnh : b.nm = hiB
              · rw [if_pos (eh.mpr hnh)]
                exact go (Or.inl hnh)
              · rw [if_neg (fun z => hnh (eh.mp z))]
                by_cases hnl : b.nm = loB
                · rw [if_pos (el.mpr hnl)]
                  exact go (Or.inr hnl)
                · rw [if_neg (fun z => hnl (el.mp z))]
                  have en : (fst2 (b :: r2)).bind (fun x => if AT.k x.1 = 2 ∧ (AT.nm x.1 = hiB ∨ AT.nm x.1 = loB) ∧ AT.k x.2.1 = 40 then cmpA n x.2.2 true (o + 1) (40 :: (if AT.nm x.1 = hiB then 12 else 13) :: S) R else none) = none := by
                    cases r2 with
                    | nil => rfl
                    | cons c r3 =>
                      show (if b.k = 2 ∧ (b.nm = hiB ∨ b.nm = loB) ∧ c.k = 40 then _ else none) = none
                      rw [if_neg (fun z => by rcases z.2.1 with z | z; exact hnh z; exact hnl z)]
                  rw [en]
                  exact fail
            · rw [if_neg hb2, minus]
              have en : (fst2 (b :: r2)).bind (fun x => if AT.k x.1 = 2 ∧ (AT.nm x.1 = hiB ∨ AT.nm x.1 = loB) ∧ AT.k x.2.1 = 40 then cmpA n x.2.2 true (o + 1) (40 :: (if AT.nm x.1 = hiB then 12 else 13) :: S) R else none) = none := by
                cases r2 with
                | nil => rfl
                | cons c r3 =>
                  show (if b.k = 2 ∧ (b.nm = hiB ∨ b.nm = loB) ∧ c.k = 40 then _ else none) = none
                  rw [if_neg (fun z => hb2 z.1)]
              rw [en]
              exact fail
        · refine RC_n c37 ?_
          rw [if_neg c37]
          unfold C_Frm_takeOperand
          rw [tv]
          simp only [cr, Option.bind_some]
          -- an operand is put
          have p220 : ∀ (k0 v0 : Int32) (s : XSt) (sF' : CS), a.k ≠ 0 → fp sF' x y = fp sF x y → (∀ r, r < 4 → rg sF' r = rg sF r) → sF'.1 3 = sF.1 3 → sF'.1 0 = b2 (!((R ++ [s]).any (lz lo))) → StepR ns nr k0 v0 s → RC (fp sF x y) (ct (C_Frm_takeOperand_220 k0 v0 sF' sN sT sP sI) (fun r13 u14 => (if r13 = 0 then C_Frm_compile_81 N u14 sN sT sP sI else C_Frm_compile_163 N (C_Frm_compile_33 N m') 1 (nI (cn' + 1)) u14 sN sT sP sI))) (fun v u c => c = fp u.1 x y ∧ CmpP ns nr Y K0 V0 Z lo sT (cmpA n r false o S (R ++ [s])) v u) := by
            intro k0 v0 s sF' ha hfp hrg e3 e0 hst
            rw [← hfp]
            unfold C_Frm_takeOperand_220
            have step : RC (fp sF' x y) (ct (C_Row_add k0 (rg sF' 0)) (fun r1 u2 => bnd (rs sF' 0 u2) (fun sF8 => ct (C_Row_add v0 (rg sF8 1)) (fun r9 u10 => bnd (rs sF8 1 u10) (fun sF16 => bnd (cF sF16 2 (0 : Int32)) (fun sF17 => some (((1 : Int32), sF17), (0, 0)))))))) (fun v u c => v = 1 ∧ c = fp u x y ∧ FR4 u (K0 ++ (K ++ [k0])) (V0 ++ (V ++ [v0])) S.reverse Z ∧ u.1 0 = sF'.1 0 ∧ u.1 2 = 0 ∧ u.1 3 = sF'.1 3) := by
              refine RC_Fadd (by omega) (by rw [hrg 0 (by omega)]; exact f0) (by simp only [List.length_append]; omega) k0 (fun sF1 a1 a2 a3 => ?_)
              refine RC_Fadd (by omega) (by rw [a2 1 (by decide), hrg 1 (by omega)]; exact f1) (by simp only [List.length_append]; omega) v0 (fun sF2 b1 b2' b3 => RC_bnd ?_)
              rw [← fp_cF sF2 2 0]
              rw [List.append_assoc] at a1 b1
              refine RC_ret ⟨rfl, rfl, ⟨?_, ?_, ?_, ?_⟩, ?_, rfl, ?_⟩
              · rw [rg_cF (by decide), b2' 0 (by decide)]; exact a1
              · rw [rg_cF (by decide)]; exact b1
              · rw [rg_cF (by decide), b2' 2 (by decide), a2 2 (by decide), hrg 2 (by omega)]; exact f2
              · rw [rg_cF (by decide), b2' 3 (by decide), a2 3 (by decide), hrg 3 (by omega)]; exact f3
              · show sF2.1 0 = _; rw [b3 0 (by omega), a3 0 (by omega)]
              · show sF2.1 3 = _; rw [b3 3 (by omega), a3 3 (by omega)]
            refine RC_then step (fun v u c hu => ?_)
            obtain ⟨rfl, rfl, g1, g2, g3, g4⟩ := hu
            refine RC_n (by decide) ?_
            exact nx false o S (R ++ [s]) (K ++ [k0]) (V ++ [v0]) u ha g1 (StpL_snoc hS hst) hok ho (g2.trans e0) g3 (g4.trans (e3.trans h3)) (by simp only [List.length_append, List.length_cons, List.length_nil]; omega) (by simp only [List.length_append, List.length_cons, List.length_nil]; omega)
          have anyS : ∀ s : XSt, lz lo s = false → (R ++ [s]).any (lz lo) = R.any (lz lo) := fun s hs => by
            rw [List.any_append, List.any_cons, List.any_nil, hs]; simp
          have anyT : ∀ s : XSt, lz lo s = true → (R ++ [s]).any (lz lo) = true := fun s hs => by
            rw [List.any_append, List.any_cons, List.any_nil, hs]; simp
          by_cases k2 : a.k = 2
          · rw [if_pos k2, if_neg (show ¬ (a.k = 3 ∨ a.k = 4) by rw [k2]; decide), if_pos k2]
            obtain ⟨i, hi1, hi2, hi3⟩ := tr.nm k2
            have hi3' : v = nI i := hi3
            have ed := nm_eq hnd hsm hi1 hd1
            rw [hi2, hd2] at ed
            rw [hd3, hi3']
            have h102 : ∀ t0 : Int32, t0 = nmK a → RC (fp sF x y) (ct (C_Frm_takeOperand_102 (nI i) t0 sF sN sT sP sI) (fun r13 u14 => (if r13 = 0 then C_Frm_compile_81 N u14 sN sT sP sI else C_Frm_compile_163 N (C_Frm_compile_33 N m') 1 (nI (cn' + 1)) u14 sN sT sP sI))) (fun v u c => c = fp u.1 x y ∧ CmpP ns nr Y K0 V0 Z lo sT (cmpA n r false o S (R ++ [(nmK a, a)])) v u) := by
              intro t0 ht
              subst ht
              have hst : StepR ns nr (nmK a) (nI i) (nmK a, a) := by
                refine ⟨rfl, fun z => ?_, fun _ => ⟨i, hi1, hi2, rfl⟩, fun z => ?_⟩
                · exfalso
                  rcases (isOp_nm a).2 with e | e
                  · rw [e] at z; exact absurd (show (2 : Int32) = 3 from z) (by decide)
                  · rw [e] at z; exact absurd (show (7 : Int32) = 3 from z) (by decide)
                · exfalso
                  rcases (isOp_nm a).2 with e | e
                  · rw [e] at z; exact absurd (show (2 : Int32) = 8 ∨ (2 : Int32) = 9 from z) (by decide)
                  · rw [e] at z; exact absurd (show (7 : Int32) = 8 ∨ (7 : Int32) = 9 from z) (by decide)
              have hlz : lz lo (nmK a, a) = lo a := by
                unfold lz
                rw [if_pos (isOp_nm a).2]
              have hloa := hlo a i hi1 hi2
              have p135 : sF.1 0 = 0 ∨ lo a = true → RC (fp sF x y) (ct (C_Frm_takeOperand_135 (nmK a) (nI i) sF sN sT sP sI) (fun r13 u14 => (if r13 = 0 then C_Frm_compile_81 N u14 sN sT sP sI else C_Frm_compile_163 N (C_Frm_compile_33 N m') 1 (nI (cn' + 1)) u14 sN sT sP sI))) (fun v u c => c = fp u.1 x y ∧ CmpP ns nr Y K0 V0 Z lo sT (cmpA n r false o S (R ++ [(nmK a, a)])) v u) := by
                intro hz
                unfold C_Frm_takeOperand_135 C_Frm_takeOperand_136
                rw [gd_t (by decide)]
                refine p220 (nmK a) (nI i) (nmK a, a) (cF sF 0 0) (by rw [k2]; decide) rfl (fun r hr => rg_cF (by omega)) rfl ?_ hst
                rw [cF_at]
                have : (R ++ [(nmK a, a)]).any (lz lo) = true := by
                  rcases hz with hz | hz
                  · rw [List.any_append]
                    rw [h0] at hz
                    have := b2_0.mp hz
                    simp only [Bool.not_eq_false'] at this
                    rw [this, Bool.true_or]
                  · exact anyT _ (by rw [hlz]; exact hz)
                rw [this]
                rfl
              unfold C_Frm_takeOperand_102
              by_cases hz : sF.1 0 = 0
              · rw [if_pos hz]; exact p135 (Or.inl hz)
              · rw [if_neg hz]
                by_cases hdt : a.nm = dotB
                · rw [if_neg (show ¬ nmK a = 2 by unfold nmK; rw [if_pos hdt]; decide)]
                  exact p135 (Or.inr (hloa.mpr (Or.inl hdt)))
                · rw [if_pos (show nmK a = 2 by unfold nmK; rw [if_neg hdt]), C_Row_get_eq hNL.r0, getR_nI _ (by omega)]
                  simp only [cr, Option.bind_some]
                  by_cases hso : so.getD i 0 = 2
                  · rw [if_pos hso]
                    unfold C_Frm_takeOperand_136
                    rw [gd_t (by decide)]
                    have hlf : lo a = false := by
                      cases hl' : lo a with
                      | false => rfl
                      | true => rcases hloa.mp hl' with z | z; exact absurd z hdt; exact absurd hso z
                    refine p220 (nmK a) (nI i) (nmK a, a) (cF sF 0 1) (by rw [k2]; decide) rfl (fun r hr => rg_cF (by omega)) rfl ?_ hst
                    rw [cF_at, anyS _ (by rw [hlz]; exact hlf)]
                    rw [h0] at hz
                    cases hb : (!(R.any (lz lo))) with
                    | true => rfl
                    | false => rw [hb] at hz; exact absurd rfl hz
                  · rw [if_neg hso]
                    exact p135 (Or.inr (hloa.mpr (Or.inr hso)))
            by_cases hdt : a.nm = dotB
            · rw [if_pos (ed.mpr hdt)]
              exact h102 7 (by unfold nmK; rw [if_pos hdt])
            · rw [if_neg (fun z => hdt (ed.mp z))]
              exact h102 2 (by unfold nmK; rw [if_neg hdt])
          rw [if_neg k2]
          have hv3 : a.k = 3 ∨ a.k = 4 ∨ a.k = 5 → v = a.v := fun z => tr.v z
          have p80 : a.k = 3 ∨ a.k = 4 → RC (fp sF x y) (ct (C_Frm_takeOperand_80 v sF sN sT sP sI) (fun r13 u14 => (if r13 = 0 then C_Frm_compile_81 N u14 sN sT sP sI else C_Frm_compile_163 N (C_Frm_compile_33 N m') 1 (nI (cn' + 1)) u14 sN sT sP sI))) (fun v u c => c = fp u.1 x y ∧ CmpP ns nr Y K0 V0 Z lo sT (cmpA n r false o S (R ++ [(3, a)])) v u) := by
            intro hz
            unfold C_Frm_takeOperand_80
            refine p220 3 v (3, a) sF (by rcases hz with z | z <;> rw [z] <;> decide) rfl (fun _ _ => rfl) rfl (by rw [anyS _ rfl]; exact h0) ⟨rfl, fun _ => hv3 (by rcases hz with z | z <;> simp [z]), fun z => absurd (show (3 : Int32) = 2 from z) (by decide), fun z => absurd (show (3 : Int32) = 8 ∨ (3 : Int32) = 9 from z) (by decide)⟩
          by_cases k3 : a.k = 3
          · rw [if_pos k3, if_pos (Or.inl k3)]; exact p80 (Or.inl k3)
          rw [if_neg k3]
          by_cases k4 : a.k = 4
          · rw [if_pos k4, if_pos (Or.inr k4)]; exact p80 (Or.inr k4)
          rw [if_neg k4, if_neg (show ¬ (a.k = 3 ∨ a.k = 4) by simp [k3, k4]), if_neg k2]
          by_cases k5 : a.k = 5
          · rw [if_pos k5, if_pos k5]
            obtain ⟨d, hd, hd'⟩ := hNr a List.mem_cons_self k5
            have hva := hv3 (Or.inr (Or.inr k5))
            have p156 : RC (fp sF x y) (ct (C_Frm_takeOperand_156 v (nrK a) sF sN sT sP sI) (fun r13 u14 => (if r13 = 0 then C_Frm_compile_81 N u14 sN sT sP sI else C_Frm_compile_163 N (C_Frm_compile_33 N m') 1 (nI (cn' + 1)) u14 sN sT sP sI))) (fun v u c => c = fp u.1 x y ∧ CmpP ns nr Y K0 V0 Z lo sT (cmpA n r false o S (R ++ [(nrK a, a)])) v u) := by
              unfold C_Frm_takeOperand_156
              rw [hva, hd', C_latest hP hd]
              simp only [cr, Option.bind_some, bnd]
              have hnr := isOp_nr a
              refine p220 (nrK a) (nI (nr d)) (nrK a, a) (cF sF 0 0) (by rw [k5]; decide) rfl (fun r hr => rg_cF (by omega)) rfl ?_ ⟨rfl, fun z => ?_, fun z => ?_, fun _ => ⟨d, hd, hd', rfl⟩⟩
              · rw [cF_at, anyT _ (by unfold lz; rw [if_neg hnr.2.1]; exact decide_eq_true hnr.2.2)]; rfl
              · exfalso
                rcases hnr.2.2 with e | e
                · rw [e] at z; exact absurd (show (8 : Int32) = 3 from z) (by decide)
                · rw [e] at z; exact absurd (show (9 : Int32) = 3 from z) (by decide)
              · exfalso
                rcases hnr.2.2 with e | e
                · rw [e] at z; exact absurd (show (8 : Int32) = 2 from z) (by decide)
                · rw [e] at z; exact absurd (show (9 : Int32) = 2 from z) (by decide)
            by_cases hodd : a.v &&& 1 = 1
            · rw [if_pos (by rw [hva]; exact hodd)]
              rw [show nrK a = 9 by unfold nrK; rw [if_pos hodd]] at p156
              rw [show nrK a = 9 by unfold nrK; rw [if_pos hodd]]
              exact p156
            · rw [if_neg (by rw [hva]; exact hodd)]
              rw [show nrK a = 8 by unfold nrK; rw [if_neg hodd]] at p156
              rw [show nrK a = 8 by unfold nrK; rw [if_neg hodd]]
              exact p156
          rw [if_neg k5, if_neg k5]
          by_cases k40 : a.k = 40
          · rw [if_pos k40, if_neg (by rw [k40]; decide), if_neg (by rw [k40]; decide), if_pos k40]
            have step : RC (fp sF x y) (ct (C_Row_add a.k (rg sF 2)) (fun r3 u4 => bnd (rs sF 2 u4) (fun sF10 => bnd (cF sF10 3 ((sF10.1 3) + 1)) (fun sF11 => some (((1 : Int32), sF11), (0, 0)))))) (fun v u c => v = 1 ∧ c = fp u x y ∧ FR4 u (K0 ++ K) (V0 ++ V) (40 :: S).reverse Z ∧ u.1 0 = sF.1 0 ∧ u.1 2 = sF.1 2 ∧ u.1 3 = nI (o + 1)) := by
              refine RC_Fadd (by omega) f2 (by rw [List.length_reverse]; omega) a.k (fun sF1 a1 a2 a3 => RC_bnd ?_)
              rw [← fp_cF sF1 3 (sF1.1 3 + 1)]
              refine RC_ret ⟨rfl, rfl, ⟨?_, ?_, ?_, ?_⟩, ?_, ?_, ?_⟩
              · rw [rg_cF (by decide), a2 0 (by decide)]; exact f0
              · rw [rg_cF (by decide), a2 1 (by decide)]; exact f1
              · rw [rg_cF (by decide), List.reverse_cons, ← k40]; exact a1
              · rw [rg_cF (by decide), a2 3 (by decide)]; exact f3
              · show sF1.1 0 = _; rw [a3 0 (by omega)]
              · show sF1.1 2 = _; rw [a3 2 (by omega)]
              · rw [cF_at, a3 3 (by omega), h3, nI_1]
            refine RC_then step (fun v u c hu => ?_)
            obtain ⟨rfl, rfl, g1, g2, g3, g4⟩ := hu
            refine RC_n (by decide) ?_
            refine nx true (o + 1) (40 :: S) R K V u (by rw [k40]; decide) g1 hS ?_ (by rw [c40_cons, ho]) (g2.trans h0) (g3.trans hw2) g4 (by simp only [List.length_append, List.length_cons]; omega) (by simp only [List.length_append, List.length_cons]; omega)
            intro s hs
            rcases List.mem_cons.mp hs with rfl | hs
            · exact Or.inl rfl
            · exact hok s hs
          rw [if_neg k40]
          have psg : ∀ t : Int32, okS t → t ≠ 40 → a.k ≠ 0 → RC (fp sF x y) (ct (ct (C_Row_add t (rg sF 2)) (fun r12 u13 => bnd (rs sF 2 u13) (fun sF19 => some (((1 : Int32), sF19), (0, 0))))) (fun r13 u14 => (if r13 = 0 then C_Frm_compile_81 N u14 sN sT sP sI else C_Frm_compile_163 N (C_Frm_compile_33 N m') 1 (nI (cn' + 1)) u14 sN sT sP sI))) (fun v u c => c = fp u.1 x y ∧ CmpP ns nr Y K0 V0 Z lo sT (cmpA n r true o (t :: S) R) v u) := by
            intro t hokt hne ha
            have step : RC (fp sF x y) (ct (C_Row_add t (rg sF 2)) (fun r12 u13 => bnd (rs sF 2 u13) (fun sF19 => some (((1 : Int32), sF19), (0, 0))))) (fun v u c => v = 1 ∧ c = fp u x y ∧ FR4 u (K0 ++ K) (V0 ++ V) (t :: S).reverse Z ∧ u.1 0 = sF.1 0 ∧ u.1 2 = sF.1 2 ∧ u.1 3 = nI o) := by
              refine RC_Fadd (by omega) f2 (by rw [List.length_reverse]; omega) t (fun sF1 a1 a2 a3 => ?_)
              refine RC_ret ⟨rfl, rfl, ⟨?_, ?_, ?_, ?_⟩, a3 0 (by omega), a3 2 (by omega), ?_⟩
              · rw [a2 0 (by decide)]; exact f0
              · rw [a2 1 (by decide)]; exact f1
              · rw [List.reverse_cons]; exact a1
              · rw [a2 3 (by decide)]; exact f3
              · rw [a3 3 (by omega), h3]
            refine RC_then step (fun v u c hu => ?_)
            obtain ⟨rfl, rfl, g1, g2, g3, g4⟩ := hu
            refine RC_n (by decide) ?_
            refine nx true o (t :: S) R K V u ha g1 hS ?_ (by rw [c40_skip hne, ho]) (g2.trans h0) (g3.trans hw2) g4 (by simp only [List.length_append, List.length_cons]; omega) (by simp only [List.length_append, List.length_cons]; omega)
            intro s hs
            rcases List.mem_cons.mp hs with rfl | hs
            · exact hokt
            · exact hok s hs
          by_cases k45 : a.k = 45
          · rw [if_pos k45, if_pos k45]
            exact psg 10 (by unfold okS; decide) (by decide) (by rw [k45]; decide)
          rw [if_neg k45, if_neg k45]
          by_cases k126 : a.k = 126
          · rw [if_pos k126, if_pos k126]
            exact psg 11 (by unfold okS; decide) (by decide) (by rw [k126]; decide)
          rw [if_neg k126, if_neg k126, if_neg k40]
          exact RC_then (P := fun v u c => v = 0 ∧ u = sF ∧ c = fp sF x y) (RC_ret ⟨rfl, rfl, rfl⟩) (fun v u c hu => by
            obtain ⟨rfl, rfl, rfl⟩ := hu
            exact RC_y rfl (bad _ ⟨_, _, _, _, f0, f1, f2, f3⟩))
end
