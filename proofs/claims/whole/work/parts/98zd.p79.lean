/-! ===== the class's parser: constants; the state between statements ===== -/
/-- what of the names' state a text leaves as it is -/
def nq (σ : CS) : Nat × (Fin 100 → Int32) := (capN σ, fun j => σ.1 j)
/-- how many constants -/
def cnE (E : List Ev) : Nat := (E.filter (fun e => decide (e.1 = 2))).length
theorem cnE_snoc (E : List Ev) (e : Ev) : cnE (E ++ [e]) = cnE E + (if e.1 = 2 then 1 else 0) := by
  unfold cnE
  rw [List.filter_append, List.length_append, List.filter_cons, List.filter_nil]
  by_cases h : e.1 = 2
  · rw [if_pos h, if_pos (decide_eq_true h)]; rfl
  · rw [if_neg h, if_neg (by simpa using h)]; rfl
/-- what the tables say of a name's statement -/
def OpR (nm : List Int32) (v w : Int32) : Prop := (opO nm = none ∧ v = 0) ∨ ∃ o j, opO nm = some o ∧ j < ex_nO ∧ v = nI (j + 1) ∧ ex_role.getD j 0 = o.1 ∧ (o.1 = 0 → ex_shape.getD j 0 < 188 ∧ strB (ex_shape.getD j 0) = o.2.1 ∧ ex_word.getD j 0 ||| w = o.2.2) ∧ (o.1 = 4 ∨ o.1 = 5 ∨ o.1 = 9 ∨ o.1 = 10 → ex_word.getD j 0 = o.2.2)
def Tbl (ns : List (List Int32)) (op re od : List Int32) : Prop := (∀ i, i < ns.length → getR re (nI i) = regR (ns.getD i []) + 1) ∧ ∀ i, i < ns.length → OpR (ns.getD i []) (getR op (nI i)) (getR od (nI i))
def CSt (X : List Int32) (ns : List (List Int32)) (Y K V so va op re od : List Int32) (E : List Ev) (sec : Nat) (sF sN sP sI : CS) : Prop :=
  PrI X ns Y K V sI E ∧ NmE X ns so va E ∧ (∃ S Z, FR4 sF K V S Z) ∧ K.length = V.length ∧ LOk sI (cI E) ∧ RowL (rg sP 0) (lbI 10 E) ∧ sP.1 0 = nI (cnE E) ∧ sP.1 1 = nI (cI E) ∧ sP.1 5 = b2 (decide (sec = 1)) ∧ (sP.2.2 20 = 10 ∧ ∀ d, d < 10 → sP.2.1 20 d = nI (nrE X E d)) ∧ NmS sN ns so va op re od
def CBd (ns : List (List Int32)) (Y op re od : List Int32) (sF sN sT sP sI : CS) : Prop := FVal sF ∧ (∃ so va, NmS sN ns so va op re od) ∧ (∃ ts, TPos ns Y sT ts) ∧ (∃ l, RowL (rg sP 0) l) ∧ sP.2.2 20 = 10 ∧ LOk sI 0
section
variable {N : Nat} {X : List Int32} {ns : List (List Int32)} {Y K V so va op re od : List Int32} {sF sN sP sI sR sT : CS} {E : List Ev} {x y ln sec : Nat}
theorem CSt.pcx (hN : 70000 < N) (hT : Tbl ns op re od) (hW : WfE X E) (h : CSt X ns Y K V so va op re od E sec sF sN sP sI) : PCx N ns so va op re od (nrE X E) (loR X (LbE E)) sN sP := by
  obtain ⟨h1, h2, h3, h4, h5, h6, h7, h8, h9, h10, h11⟩ := h
  exact ⟨hN, h11, h10, fun a i hi hn => lo_so hW h2 a i hi hn, hT.1⟩
theorem fx_K (hW : WfE X E) (h : NmE X ns so va E) (hs : ns.length ≤ 140000) : FixA ns so va (loR X (LbE E)) (ηK X (LbE E)) := by
  refine ⟨fun a => ?_, fun a i hi hn hl => ?_⟩
  · unfold ηK ηR; rw [if_pos rfl]
  · have hlo : ¬ (a.nm = dotB ∨ so.getD i 0 ≠ 2) := fun z => by rw [(lo_so hW h a i hi hn).mpr z] at hl; cases hl
    rw [not_or] at hlo
    have h2 : so.getD i 0 = 2 := Decidable.not_not.mp hlo.2
    rw [getR_nI _ (by omega), getR_nI _ (by omega)]
    refine ⟨h2, ?_⟩
    rcases h i hi with ⟨E1, e, E2, g1, g2, g3, g4, g5⟩ | ⟨g1, g2⟩
    · have k2 : e.1 = 2 := by
        by_cases k : e.1 = 2
        · exact k
        · rw [(g5 k).1] at h2; exact absurd h2 (by decide)
      have hnr : ¬ 0 ≤ regR a.nm := by
        intro hr
        have hw := (hW E1 e E2 g1).2.2.2.2.2.2.1 g2
        unfold tkA at hw
        rw [Bool.or_eq_false_iff, g3, hn] at hw
        exact absurd hr (of_decide_eq_false hw.1)
      unfold ηK ηR
      rw [if_neg (by decide), if_neg (by decide), if_pos rfl, if_neg hnr, fnd_same X a.nm E (0, 0) 0]
      rw [hn] at g3
      rcases fnd_ev X a.nm E (0, 0) 0 with ⟨-, g⟩ | ⟨F1, f, F2, f1, f2, f3, f4, f5⟩
      · exact absurd g3 (g e (by rw [g1]; simp) g2)
      · obtain ⟨rfl, rfl⟩ := lab_uniq hW g1 f1 g2 f2 (g3.trans f3.symm)
        rw [f4, Nat.zero_add]
        have hat : (LbE E).getD (LbE E1).length lb0 = (e.2.1, e.1, e.2.2.2.2.1) := by
          rw [g1, LbE_app, LbE_cons, if_pos (by omega)]
          exact getD_mid _ _ _ _
        show (valL 0 ((LbE E).getD (LbE E1).length lb0), false) = _
        rw [hat, (g4 k2).2]
        unfold valL
        rw [if_neg (by simp only []; omega)]
    · rw [g2] at h2; exact absurd h2 (by decide)
theorem reg_1 (nm : List Int32) : (regR nm + 1 = 0) ↔ ¬ 0 ≤ regR nm := by
  constructor
  · intro h z
    obtain ⟨j, hj, e⟩ := regR_n z
    rw [e, show (1 : Int32) = nI 1 from rfl, nI_add, show (0 : Int32) = nI 0 from rfl, nI_eq (by omega) (by omega)] at h
    omega
  · intro h
    rw [regR_m1 h]; decide
theorem C_free (hNL : NmS sN ns so va op re od) (hT : Tbl ns op re od) (h : NmE X ns so va E) {i : Nat} (hi : i < ns.length) : C_Nam_isFree (nI i) sN = some (b2 (!(tkA X (LbE E) (ns.getD i [])))) ∧ (tkA X (LbE E) (ns.getD i []) = false → so.getD i 0 = 0) := by
  have hs := hNL.1.small.1
  have htk := tk_so h i hi
  have hre := hT.1 i hi
  have e0 : getR so (nI i) = so.getD i 0 := getR_nI _ (by omega)
  unfold C_Nam_isFree C_Nam_isFree_26 C_Nam_isFree_27 tkA
  rw [C_Row_get_eq hNL.1.r0, C_Row_get_eq hNL.1.r3, hre, e0, htk]
  simp only [cr, Option.bind_some]
  by_cases h0 : so.getD i 0 = 0
  · rw [if_pos h0, decide_eq_false (show ¬ (so.getD i 0 ≠ 0) from fun z => z h0), Bool.or_false]
    refine ⟨?_, fun _ => h0⟩
    by_cases hr : 0 ≤ regR (ns.getD i [])
    · rw [if_neg (fun z => (reg_1 _).mp z hr), decide_eq_true hr]; rfl
    · rw [if_pos ((reg_1 _).mpr hr), decide_eq_false hr]; rfl
  · rw [if_neg h0, decide_eq_true (show so.getD i 0 ≠ 0 from h0), Bool.or_true]
    exact ⟨rfl, fun z => by cases z⟩
theorem C_define (hNL : NmS sN ns so va op re od) {i : Nat} (hi : i < ns.length) (s v : Int32) : ∃ sN', C_Nam_define (nI i) s v sN = some (0, sN') ∧ NmS sN' ns (so.set i s) (va.set i v) op re od ∧ nq sN' = nq sN := by
  have hs := hNL.1.small.1
  obtain ⟨⟨r0, r1, r2, r3, r4, r5, r6, r7, r8, ha, hc, hd, l1, l2, nd⟩, ⟨d1, a1, a2, a3⟩, ⟨d2, b1, b2, b3⟩, ⟨d3, c1, c2, c3⟩⟩ := hNL
  obtain ⟨u0, p1, p2, p3⟩ := C_Row_set_eq r0 i (by omega) s
  have r1' : RowL (rg (rs sN 0 u0) 1) va := by rw [rg_rs (by decide)]; exact r1
  obtain ⟨u1, q1, q2, q3⟩ := C_Row_set_eq r1' i (by omega) v
  refine ⟨rs (rs sN 0 u0) 1 u1, ?_, ?_, ?_⟩
  · unfold C_Nam_define
    rw [p1]
    simp only [cl, bnd, Option.bind_some]
    rw [q1]
    rfl
  · have num : ∀ j, j < 100 → (rs (rs sN 0 u0) 1 u1).1 j = sN.1 j := fun j hj => by rw [rs_num hj, rs_num hj]
    have row : ∀ r, r ≠ 0 → r ≠ 1 → rg (rs (rs sN 0 u0) 1 u1) r = rg sN r := fun r h1 h2 => by rw [rg_rs h2, rg_rs h1]
    refine ⟨⟨?_, RowL_rs q2, ?_, ?_, ?_, ?_, ?_, ?_, ?_, ?_, hc, hd, ?_, ?_, nd⟩, ⟨d1, a1, a2, ?_⟩, ⟨d2, b1, b2, ?_⟩, ⟨d3, c1, c2, ?_⟩⟩
    · rw [rg_rs (by decide)]; exact RowL_rs p2
    · rw [row 2 (by decide) (by decide)]; exact r2
    · rw [row 3 (by decide) (by decide)]; exact r3
    · rw [row 4 (by decide) (by decide)]; exact r4
    · rw [row 5 (by decide) (by decide)]; exact r5
    · rw [row 6 (by decide) (by decide)]; exact r6
    · rw [row 7 (by decide) (by decide)]; exact r7
    · rw [row 8 (by decide) (by decide)]; exact r8
    · rw [num 0 (by decide)]; exact ha
    · rw [List.length_set]; exact l1
    · rw [List.length_set]; exact l2
    · rw [num 1 (by decide)]; exact a3
    · rw [num 2 (by decide)]; exact b3
    · rw [num 3 (by decide)]; exact c3
  · have e0 : u0.2.2 0 = sN.2.2 0 := by rw [p3]; rfl
    have e1 : u1.2.2 0 = sN.2.2 1 := by rw [q3]; rfl
    refine Prod.ext ?_ (funext fun j => ?_)
    · show capN _ = capN _
      unfold capN rs
      simp only []
      simp [e0, e1]
    · show (rs (rs sN 0 u0) 1 u1).1 j.val = sN.1 j.val
      rw [rs_num j.isLt, rs_num j.isLt]
theorem eqT_f1 (η : Int32 → AT → Int32 × Bool) (lo : AT → Bool) (tk : List Int32 → Bool) (ts : List AT) : eqT η lo tk ts = match tk1 2 ts with
    | none => (1, nilA, 0, [])
    | some x => if tk x.1.nm = true then (4, nilA, 0, []) else match tk1 44 x.2 with
      | none => (1, nilA, 0, [])
      | some y => if (f1T η lo (-2147483648) 2147483647 y.2).1 ≠ 0 then ((f1T η lo (-2147483648) 2147483647 y.2).1, nilA, 0, []) else (0, x.1, (f1T η lo (-2147483648) 2147483647 y.2).2.1, (f1T η lo (-2147483648) 2147483647 y.2).2.2) := by
  unfold eqT
  cases tk1 2 ts with
  | none => rfl
  | some x =>
    simp only []
    split
    · rfl
    · cases tk1 44 x.2 with
      | none => rfl
      | some y =>
        simp only []
        unfold f1T
        cases cmpT y.2 with
        | none => rfl
        | some z =>
          simp only []
          by_cases h : fxF η lo (-2147483648) 2147483647 z.1 = 0
          · simp [h]
          · simp [h]
def EqP (X : List Int32) (Λ : List Lb) (ns : List (List Int32)) (Y K V so va op re od : List Int32) (sN sP sT : CS) (ts : List AT) (q : Nat × AT × Int32 × List AT) (v : Int32) (u : CS × CS × CS × CS) : Prop :=
  TQ sT u.2.2.1 ∧ ((q.1 ≠ 0 ∧ v = nI q.1 ∧ FVal u.1 ∧ u.2.1 = sN ∧ u.2.2.2 = sP ∧ ∃ ts', TPos ns Y u.2.2.1 ts') ∨ (q.1 = 0 ∧ v = 0 ∧ TPos ns Y u.2.2.1 q.2.2.2 ∧ (∃ S Z, FR4 u.1 K V S Z) ∧ u.2.2.2 = cF sP 0 (sP.1 0 + 1) ∧ q.2.1 ∈ ts ∧ q.2.1.k = 2 ∧ tkA X Λ q.2.1.nm = false ∧ nq u.2.1 = nq sN ∧ ∃ i, i < ns.length ∧ ns.getD i [] = q.2.1.nm ∧ so.getD i 0 = 0 ∧ NmS u.2.1 ns (so.set i 2) (va.set i q.2.2.1) op re od))
theorem C_readEquate (hN : 70000 < N) (hTb : Tbl ns op re od) (hW : WfE X E) (hS : CSt X ns Y K V so va op re od E sec sF sN sP sI) {ts : List AT} (hT : TPos ns Y sT ts) (hE : HasE ts) (hNr : NrF ts) (hlv : ∀ a ∈ ts, levN (AT.k a) < 7) (hk : K.length + ts.length ≤ 60000) :
    RC (tp sF sP sI x y) (C_Par_readEquate N sR sF sN sT sP sI) (fun v u c => c = tp u.1 u.2.2.2 sI x y ∧ EqP X (LbE E) ns Y K V so va op re od sN sP sT ts (eqK X (LbE E) ts) v u) := by
  have C := hS.pcx hN hTb hW
  obtain ⟨h1, h2, ⟨S, Z, hF⟩, hKV, hL, h6, h7, hc, h9, h10, h11⟩ := id hS
  have hFx := fx_K hW h2 h11.1.small.1
  have hdot : ∀ a : AT, a.nm = dotB → loR X (LbE E) a = true := fun a ha => by unfold loR; rw [if_pos ha]
  unfold eqK
  rw [eqT_f1]
  unfold C_Par_readEquate
  have hk0 := T_kind hT (j := 0) (by omega)
  change C_Tok_kind 0 sT = some _ at hk0
  have hk1 := T_kind hT (j := 1) (by omega)
  change C_Tok_kind 1 sT = some _ at hk1
  refine RC_cr hk0 ?_
  have bad : ∀ (v : Int32) (q : Nat), q ≠ 0 → v = nI q → RC (tp sF sP sI x y) (some ((v, (sF, sN, sT, sP)), (0, 0))) (fun v u c => c = tp u.1 u.2.2.2 sI x y ∧ EqP X (LbE E) ns Y K V so va op re od sN sP sT ts (q, nilA, 0, []) v u) := by
    intro v q hq hv
    exact RC_ret ⟨rfl, TQ.rf _, Or.inl ⟨hq, hv, ⟨_, _, _, _, hF⟩, rfl, rfl, _, hT⟩⟩
  by_cases k2 : kAt ts 0 = 2
  · refine RC_y k2 ?_
    obtain ⟨a, r, rfl, ea, et⟩ := tk1_e k2 (by decide)
    rw [et]
    simp only []
    obtain ⟨v, wl, tv, tr, -⟩ := T_value hT (j := 0) (by omega) (a := a) (r := r) rfl
    change C_Tok_value 0 sT = some v at tv
    obtain ⟨i, hi1, hi2, hi3⟩ := tr.nm ea
    have hi3' : v = nI i := hi3
    refine RC_cr tv ?_
    rw [hi3']
    obtain ⟨f1, f2⟩ := C_free h11 hTb h2 hi1
    rw [hi2] at f1 f2
    refine RC_cr f1 ?_
    by_cases htk : tkA X (LbE E) a.nm = true
    · rw [if_pos htk]
      refine RC_y (by rw [htk]; rfl) (bad 4 4 (by omega) rfl)
    · have htf : tkA X (LbE E) a.nm = false := by simpa using htk
      rw [if_neg htk]
      refine RC_n (by rw [htf]; decide) (RC_cr hk1 ?_)
      by_cases k44 : kAt (a :: r) 1 = 44
      · refine RC_y k44 ?_
        have k44' : kAt r 0 = 44 := k44
        obtain ⟨b, r2, rfl, eb, et2⟩ := tk1_e k44' (by decide)
        rw [et2]
        simp only []
        obtain ⟨sT2, t1, t2, t3, t4⟩ := T_skip hT (j := 2) (by omega)
        change C_Tok_skip 2 sT = some (0, sT2) at t1
        change TPos ns Y sT2 r2 at t2
        refine RC_cl t1 ?_
        have hE2 := (hE.tl (by rw [ea]; decide)).tl (by rw [eb]; decide)
        simp only [List.length_cons] at hk
        have mem2 : ∀ z, z ∈ r2 → z ∈ a :: b :: r2 := fun z h => List.mem_cons_of_mem _ (List.mem_cons_of_mem _ h)
        rw [tp_f]
        refine RC_then (C_readFixed C hFx hdot hc hL hKV hE2 (fun z h => hNr z (mem2 z h)) (fun z h => hlv z (mem2 z h)) t2 hF (by omega) _ _) (fun v u c hu => ?_)
        obtain ⟨rfl, g1, rfl, g3, g4, g5⟩ := hu
        rw [← tp_f]
        by_cases hz : (f1T (ηK X (LbE E)) (loR X (LbE E)) (-2147483648) 2147483647 r2).1 = 0
        · obtain ⟨g6, g7, S', Z', g8⟩ := g5 hz
          refine RC_y ((fl_nI _ (f1T_le _ _ _ _ _)).mpr hz) ?_
          rw [if_neg (fun z => z hz), g6]
          obtain ⟨sN', d1, d2, d3⟩ := C_define h11 hi1 2 (f1T (ηK X (LbE E)) (loR X (LbE E)) (-2147483648) 2147483647 r2).2.1
          refine RC_cl d1 (RC_bnd ?_)
          unfold C_Par_readEquate_101
          refine RC_ret ⟨rfl, (TQ.tr ⟨t3, t4⟩ g1), Or.inr ⟨rfl, ?_, g7, ⟨_, _, g8⟩, rfl, List.mem_cons_self, ea, htf, d3, i, hi1, hi2, f2 htf, d2⟩⟩
          rw [hz]; rfl
        · refine RC_n (fun z => hz ((fl_nI _ (f1T_le _ _ _ _ _)).mp z)) ?_
          rw [if_pos hz]
          unfold C_Par_readEquate_101
          exact RC_ret ⟨rfl, (TQ.tr ⟨t3, t4⟩ g1), Or.inl ⟨hz, rfl, g3, rfl, rfl, g4⟩⟩
      · refine RC_n k44 ?_
        rw [tk1_n (show kAt r 0 ≠ 44 from k44)]
        exact bad 1 1 (by omega) rfl
  · refine RC_n k2 ?_
    rw [tk1_n k2]
    exact bad 1 1 (by omega) rfl
/-- a statement's items in the state -/
theorem CSt.its {sF' sP' sI' : CS} {its : List AI} {kb : Nat} {hd : Int32} (hS : CSt X ns Y K V so va op re od E sec sF sN sP sI) (hG : Gd ns (nrE X E) Y K V (cI E) ln sec its kb (cF sP 6 hd) sI sF' sP' sI') (p : Nat) : ∃ K2 V2, K2.length ≤ kb ∧ CSt X ns Y (K ++ K2) (V ++ V2) so va op re od (E ++ [(5, p, ln, sec, 0, its)]) sec sF' sN sP' sI' := by
  obtain ⟨h1, h2, ⟨S, Z, hF⟩, hKV, hL, h6, h7, hc, h9, h10, h11⟩ := hS
  obtain ⟨K2, V2, S', Z', g1, g2, g3, g4, g5, g6, g7⟩ := hG
  have hnr : isNr ((5, p, ln, sec, 0, its) : Ev) = false := rfl
  refine ⟨K2, V2, g7, PrI_snoc h1 K2 V2 g6 hnr (fun _ j it hj => g3 j it hj) (fun z => by rcases z with z | z <;> cases z), NmE_snoc h2 (by show ¬ 5 < 3; omega), ⟨S', Z', g1⟩, by rw [List.length_append, List.length_append, hKV, g2], ?_, ?_, ?_, ?_, ?_, ?_, h11⟩
  · rw [cI_snoc]; exact g5
  · rw [lbI_snoc, if_neg (by show ¬ 5 < 2; omega), List.append_nil, g4, rg_cF (by decide), rg_cF (by decide)]; exact h6
  · rw [cnE_snoc, if_neg (by show ¬ 5 = 2; omega), g4]; exact h7
  · rw [cI_snoc, g4, cF_at]; rfl
  · rw [g4]; exact h9
  · rw [nrE_snoc, hnr, if_neg (by decide), g4]; exact h10
end
