/-! ===== the class's parser: readShape ===== -/
section
variable {N : Nat} {ns : List (List Int32)} {nr : Nat → Nat} {Y so va op re od K V : List Int32} {sN sP sI sR : CS} {lo : AT → Bool} {x y b ln sec : Nat}
set_option maxHeartbeats 1000000 in
theorem C_shape (C : PCx N ns so va op re od nr lo sN sP) (hsb : SB b ln sec sP) (hc : sP.1 1 = nI b) (hL : LOk sI b) (hb5 : b < 4999) (hKV : K.length = V.length) {k1 : Nat} (hk1 : k1 < 188) {sT0 : CS} {n0 : Nat} (hn0 : K.length + n0 ≤ 60000) :
    ∀ (sh : List Int32) (i m : Nat) (ts : List AT) (w q : Int32) (R : List XSt) (K2 V2 S Z : List Int32) (sF sT : CS), (strB k1).drop i = sh → i ≤ (strB k1).length → (strB k1).length - i < m → q ≠ 4 → FR4 sF (K ++ K2) (V ++ V2) S Z → StpL ns nr K2 V2 R → TPos ns Y sT ts → TQ sT0 sT → HasE ts → NrF ts → K2.length + ts.length ≤ n0 →
    RC (tp sF sP sI x y) (C_Par_readShape_17 N m k1 w q (nI K.length) (nI i) sR sF sN sT sP sI) (fun v u c => c = tp u.1 u.2.2.1 u.2.2.2 x y ∧ ShP ns nr Y K V b ln sec sP sI sT0 n0 (shp sh ts w q R) v u) := by
  obtain ⟨c1, c2, c3, c4, c5⟩ := id C
  have hex : decide (k1 < ex_N) = true := by rw [exN]; simpa using hk1
  have hl60 := (str_len k1 hk1).2
  intro sh
  induction sh with
  | nil =>
    intro i m ts w q R K2 V2 S Z sF sT hsh hi hm hq hF hS hT hTq hE hNr hk
    obtain ⟨m', rfl⟩ : ∃ m', m = m' + 1 := ⟨m - 1, by omega⟩
    have hlen : (strB k1).length ≤ i := List.drop_eq_nil_iff.mp hsh
    rw [C_Par_readShape_17]
    refine RC_gd hex (RC_cr (C_slen hk1) (RC_y (by rw [nI_leI (by omega) (by omega)]; exact hlen) (RC_cr (C_len0 q w) ?_)))
    have hs2 := StpL_len hS
    refine RC_item (sP1 := sP) (n := b) hsb (cF_self sP hc).symm hL (by omega) q w (len0 q w) (fun sI2 hf hold hL2 => ?_)
    have hin : decide (b + 1 < sI2.2.2 0 + 1) = true := by have := hL2.1; simp; omega
    refine RC_gd hin (RC_bnd (RC_cr rfl (RC_gd hin (RC_bnd ?_))))
    refine RC_ret ⟨rfl, hTq, Or.inr ⟨rfl, rfl, hT, ⟨K2, V2, S, Z, hF, by omega, fun j it hj => ?_, rfl, hL2, fun k hk' => ?_, ?_⟩⟩⟩
    · have hj0 : j = 0 ∧ it = (q, w, (len0 q w).toNatClampNeg, R, []) := by
        match j, hj with
        | 0, hj => exact ⟨rfl, by have : some (q, w, (len0 q w).toNatClampNeg, R, []) = some it := hj; injection this with this; exact this.symm⟩
        | j + 1, hj => cases hj
      obtain ⟨rfl, rfl⟩ := hj0
      refine ItX_mk (f := nI K.length) (t := nI (K.length + K2.length)) hf (fun j hj => ?_) ?_ ?_ rfl (fun _ => (len0_n q w).symm) (fun z => absurd z hq) (fun _ => rfl) ⟨K, K2, [], V, V2, [], by rw [List.append_nil], by rw [List.append_nil], hKV, rfl, rfl, hS⟩
      · unfold cA
        simp only [if_true]
        rw [pk_un (by omega), pk_un (by omega)]
      · unfold cA
        simp only [if_true]
        rw [pk_un (by omega), pk_us]
      · unfold cA
        simp only [if_true]
        rw [pk_us, hF.len.1, List.length_append]
    · unfold cA
      simp only []
      rw [if_neg (show ¬ k = b + 1 by omega), if_neg (show ¬ k = b + 1 by omega)]
      exact hold k (by omega)
    · show K2.length ≤ n0 - ts.length
      omega
  | cons c sh ih =>
    intro i m ts w q R K2 V2 S Z sF sT hsh hi hm hq hF hS hT hTq hE hNr hk
    obtain ⟨m', rfl⟩ : ∃ m', m = m' + 1 := ⟨m - 1, by omega⟩
    have hlt : i < (strB k1).length := by
      rcases Nat.lt_or_ge i (strB k1).length with z | z
      · exact z
      · rw [List.drop_eq_nil_of_le z] at hsh; cases hsh
    have hcons := drop_cons (strB k1) hlt 0
    rw [hcons] at hsh
    injection hsh with hc1 hc2
    have hbyt := str_byt k1 hk1 c (by rw [← hc1, gD_e hlt]; exact List.getElem_mem _)
    have hcn : nI c.toNatClampNeg = c := nI_c hbyt.2.2.2
    have hs2 := StpL_len hS
    rw [C_Par_readShape_17]
    refine RC_gd hex (RC_cr (C_slen hk1) (RC_n (by rw [nI_leI (by omega) (by omega)]; omega) (RC_gd hex (RC_cr (by rw [C_schar hk1 hlt, hc1]) ?_))))
    have bd0 : Bd sP sF sP sI := ⟨⟨_, _, _, _, hF⟩, ⟨nI b, (cF_self sP hc).symm⟩, hL.z⟩
    -- a sign
    have sgn : (c = 44 ∨ c = 40 ∨ c = 41) → RC (tp sF sP sI x y) (C_Par_readShape_55 N (C_Par_readShape_17 N m') k1 w q (nI K.length) (nI i) c sR sF sN sT sP sI) (fun v u cc => cc = tp u.1 u.2.2.1 u.2.2.2 x y ∧ ShP ns nr Y K V b ln sec sP sI sT0 n0 (shp (c :: sh) ts w q R) v u) := by
      intro hcc
      unfold C_Par_readShape_55 C_Par_readShape_130
      have hk0 := T_kind hT (j := 0) (by omega)
      change C_Tok_kind 0 sT = some _ at hk0
      refine RC_cr hk0 ?_
      cases ts with
      | nil => obtain ⟨a, ha, -⟩ := hE; cases ha
      | cons a r =>
        rw [kAt_0]
        by_cases hac : a.k = c
        · refine RC_y hac ?_
          obtain ⟨sT', t1, t2, t3, t4⟩ := T_skip hT (j := 1) (by omega)
          change C_Tok_skip 1 sT = some (0, sT') at t1
          refine RC_cl t1 ?_
          rw [nI_1, shp_ps (r := r) (a := a) hcc (by show (if a.k = c then some (a, r) else none) = _; rw [if_pos hac])]
          have ha0 : a.k ≠ 0 := by rw [hac]; rcases hcc with z | z | z <;> rw [z] <;> decide
          exact ih (i + 1) m' r w q R K2 V2 S Z sF sT' hc2 (by omega) (by omega) hq hF hS t2 (hTq.tr ⟨t3, t4⟩) (hE.tl ha0) (fun d hd => hNr d (List.mem_cons_of_mem _ hd)) (by simp only [List.length_cons] at hk; omega)
        · refine RC_n hac (RC_ret ⟨rfl, hTq, Or.inl ?_⟩)
          rw [shp_pn hcc (by show (if a.k = c then some (a, r) else none) = none; rw [if_neg hac])]
          exact ⟨by show (1 : Nat) ≠ 0; omega, rfl, bd0, _, hT⟩
    by_cases h44 : c = 44
    · exact RC_y h44 (sgn (Or.inl h44))
    refine RC_n h44 ?_
    by_cases h40 : c = 40
    · exact RC_y h40 (sgn (Or.inr (Or.inl h40)))
    refine RC_n h40 ?_
    by_cases h41 : c = 41
    · exact RC_y h41 (sgn (Or.inr (Or.inr h41)))
    refine RC_n h41 ?_
    have hreg := C_isReg (N := N) (k := c.toNatClampNeg) (by omega) hbyt.2.2.1
    rw [hcn] at hreg
    refine RC_cr hreg ?_
    rw [shp, if_neg (show ¬ (c = 44 ∨ c = 40 ∨ c = 41) by simp [h44, h40, h41])]
    by_cases hrm : isRM c = true
    · rw [if_pos hrm]
      refine RC_n (by rw [hrm]; decide) ?_
      obtain ⟨v, sT', r1, r2, r3⟩ := C_readReg (sR := sR) (sF := sF) (sI := sI) C hT c
      refine RC_cl r1 ?_
      rcases r3 with ⟨g1, g2, g3, g4⟩ | ⟨g1, g2, g3, g4⟩
      · rw [if_pos g1]
        refine RC_y g3 ?_
        unfold C_Par_readShape_130
        rw [nI_1, g2]
        have hsf := regT_suf g1
        exact ih (i + 1) m' _ _ q R K2 V2 S Z sF sT' hc2 (by omega) (by omega) hq hF hS g4 (hTq.tr r2) (hsf.hasE hE) (hsf.nrF hNr) (by have := hsf.len; omega)
      · rw [if_neg g1]
        refine RC_n g2 (RC_ret ⟨rfl, hTq.tr r2, Or.inl ⟨g1, g3, bd0, _, g4⟩⟩)
    · rw [if_neg hrm]
      have hrf : isRM c = false := by simpa using hrm
      refine RC_y (by rw [hrf]; rfl) ?_
      rw [tp_f]
      have hcm := C_compile (x := 2 * sP.2.2 0 + (9 * sI.2.2 0 + 4 * sI.2.2 1) + x) (y := sP.2.2 0 + 64 * (sI.2.2 0 + sI.2.2 1) + y) (Z := Z) (S0 := S) (sI := sI) c1 c2 c3 c4 hE hNr hT hF (by simp only [List.length_append]; omega) (by simp only [List.length_append]; omega)
      refine RC_then hcm (fun v u cc hu => ?_)
      obtain ⟨rfl, hcm2⟩ := hu
      rw [← tp_f]
      cases hct : cmpT ts with
      | none =>
        rw [hct] at hcm2
        obtain ⟨rfl, b2', b3, b4⟩ := hcm2
        exact RC_y rfl (RC_ret ⟨rfl, hTq.tr b3, Or.inl ⟨by show (1 : Nat) ≠ 0; omega, rfl, ⟨b2', ⟨nI b, (cF_self sP hc).symm⟩, hL.z⟩, b4⟩⟩)
      | some z =>
        obtain ⟨R1, rest⟩ := z
        rw [hct] at hcm2
        obtain ⟨rfl, g2, g3, g4, K', V', S', g5, g6⟩ := hcm2
        refine RC_n (by decide) ?_
        unfold C_Par_readShape_130
        rw [nI_1]
        have hsf := (cmpT_suf hct).1
        have hrl := cmpT_Rlen hct
        have hs6 := StpL_len g6
        rw [List.append_assoc, List.append_assoc] at g5
        refine ih (i + 1) m' rest w c (R ++ R1) (K2 ++ K') (V2 ++ V') S' Z u.1 u.2 hc2 (by omega) (by omega) ?_ g5 (StpL_app hS g6) g2 (hTq.tr g3) (hsf.hasE hE) (hsf.nrF hNr) (by simp only [List.length_append]; omega)
        intro z
        exact absurd (noc4 k1 hk1 c (by rw [← hc1, gD_e hlt]; exact List.getElem_mem _)) (fun h => h z)
theorem C_readShape (C : PCx N ns so va op re od nr lo sN sP) (hsb : SB b ln sec sP) (hc : sP.1 1 = nI b) (hL : LOk sI b) (hb5 : b < 4999) (hKV : K.length = V.length) {k1 : Nat} (hk1 : k1 < 188) {ts : List AT} {w : Int32} {S Z : List Int32} {sF sT : CS} (hF : FR4 sF K V S Z) (hT : TPos ns Y sT ts) (hE : HasE ts) (hNr : NrF ts) (hk : K.length + ts.length ≤ 60000) :
    RC (tp sF sP sI x y) (C_Par_readShape N k1 w sR sF sN sT sP sI) (fun v u c => c = tp u.1 u.2.2.1 u.2.2.2 x y ∧ ShP ns nr Y K V b ln sec sP sI sT ts.length (shp (strB k1) ts w 0 []) v u) := by
  unfold C_Par_readShape C_Frm_end
  refine RC_cr (by rw [hF.len.1]) ?_
  have := (str_len k1 hk1).2
  exact C_shape C hsb hc hL hb5 hKV hk1 hk (strB k1) 0 N ts w 0 [] [] [] S Z sF sT rfl (by omega) (by have := C.1; omega) (by decide) (by rw [List.append_nil, List.append_nil]; exact hF) trivial hT (TQ.rf _) hE hNr (by simp)
end
