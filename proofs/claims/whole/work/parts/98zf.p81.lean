/-! ===== the class's parser: labels, a line ===== -/
theorem lbI_len : ∀ (E : List Ev) (i : Nat), (lbI i E).length ≤ (E.map nit).sum
  | [], i => Nat.le_refl _
  | e :: r, i => by
    rw [lbI, List.length_append, List.map_cons, List.sum_cons]
    have := lbI_len r (i + nit e)
    split
    · rename_i h; rw [nit_lb h] at *; simp only [List.length_cons, List.length_nil]; omega
    · simp only [List.length_nil]; omega
section
variable {N : Nat} {X : List Int32} {ns : List (List Int32)} {Y K V so va op re od : List Int32} {sF sN sP sI sR sT : CS} {E : List Ev} {x y ln sec : Nat}
/-- a named label -/
theorem C_named (hS : CSt X ns Y K V so va op re od E sec sF sN sP sI) (hsec : sec < 2) (hb : cI E < 4990) {a : AT} {i : Nat} (hi1 : i < ns.length) (hi2 : ns.getD i [] = a.nm) (hnm : nmAt X a.p = a.nm) (free : so.getD i 0 = 0) {Q : Int32 → CS × CS × CS × CS → Nat × Nat → Prop} {k : CS → CS → CS → Option ((Int32 × (CS × CS × CS × CS)) × (Nat × Nat))}
    (hk : ∀ sN' sP' sI', sP'.1 4 = sP.1 4 → nq sN' = nq sN → CSt X ns Y K V (so.set i 1) (va.set i (nI (cI E))) op re od (E ++ [(sec, a.p, ln, sec, 0, [])]) sec sF sN' sP' sI' → RC (tp sF sP' sI' x y) (k sN' sP' sI') Q) :
    RC (tp sF sP sI x y) (cl (C_Nam_define (nI i) 1 (sP.1 1) sN) (fun r4 u5 => ct (C_Row_add (sP.1 1) (rg sP 0)) (fun r6 u7 => bnd (rs sP 0 u7) (fun sP13 => ct (C_Prg_add 1 (nI i) 0 sP13 sI) (fun r14 u15 => k u5 u15.1 u15.2))))) Q := by
  obtain ⟨h1, h2, ⟨S, Z, hF⟩, hKV, hL, h6, h7, hc, h9, h10, h11⟩ := hS
  obtain ⟨sN', d1, d2, d3⟩ := C_define h11 hi1 1 (nI (cI E))
  rw [hc]
  refine RC_cl d1 ?_
  have hlen := lbI_len E 10
  have hcd : cI E = 10 + (E.map nit).sum := rfl
  have ha := RC_add (x := 2 * capF sF + (9 * sI.2.2 0 + 4 * sI.2.2 1) + x) (y := capF sF + 64 * (sI.2.2 0 + sI.2.2 1) + y) h6 (by omega) (nI (cI E))
  have ec : tp sF sP sI x y = (2 * (rg sP 0).2.2 0 + (2 * capF sF + (9 * sI.2.2 0 + 4 * sI.2.2 1) + x), (rg sP 0).2.2 0 + (capF sF + 64 * (sI.2.2 0 + sI.2.2 1) + y)) := Prod.ext (by show _ = 2 * sP.2.2 0 + _; simp only []; omega) (by show _ = sP.2.2 0 + _; simp only []; omega)
  rw [ec]
  refine RC_then ha (fun v u c hu => ?_)
  obtain ⟨hu1, rfl⟩ := hu
  refine RC_bnd ?_
  have ec2 : (2 * u.2.2 0 + (2 * capF sF + (9 * sI.2.2 0 + 4 * sI.2.2 1) + x), u.2.2 0 + (capF sF + 64 * (sI.2.2 0 + sI.2.2 1) + y)) = ip sI (2 * capF sF + 2 * u.2.2 0 + x) (capF sF + u.2.2 0 + y) := Prod.ext (by simp only []; omega) (by simp only []; omega)
  rw [ec2]
  have n1 : (rs sP 0 u).1 1 = nI (cI E) := by rw [rs_num (by decide)]; exact hc
  have n5 : (rs sP 0 u).1 5 = b2 (decide (sec = 1)) := by rw [rs_num (by decide)]; exact h9
  refine RC_then (RC_padd n1 hL (by omega) (by rw [n5]; exact b2_isB _) 1 (nI i) 0 _ _) (fun r w c hw => ?_)
  obtain ⟨w1, w2⟩ := w
  obtain ⟨rfl, e1, e2, e3, e4, e5⟩ := hw
  simp only [] at e1 e2 e3 e4 e5
  rw [e3]
  have ec3 : ip w2 (2 * capF sF + 2 * u.2.2 0 + x) (capF sF + u.2.2 0 + y) = tp sF w1 w2 x y := by
    rw [e1]
    exact Prod.ext (by show _ = 2 * capF sF + 2 * (rs sP 0 u).2.2 0 + _ + x; rw [show (rs sP 0 u).2.2 0 = u.2.2 0 from rfl]; simp only []; omega) (by show _ = capF sF + (rs sP 0 u).2.2 0 + _ + y; rw [show (rs sP 0 u).2.2 0 = u.2.2 0 from rfl]; simp only []; omega)
  rw [ec3]
  have hlb : ((sec, a.p, ln, sec, 0, []) : Ev).1 < 2 := hsec
  have hnr : isNr ((sec, a.p, ln, sec, 0, []) : Ev) = false := by unfold isNr; simp only []; exact decide_eq_false (by omega)
  refine hk sN' w1 w2 (by rw [e1]; show (rs sP 0 u).1 4 = _; rw [rs_num (by decide)]) d3 ⟨?_, NmE_def h2 h11.1.nodup h11.1.lso h11.1.lva hi1 (by rw [hi2]; exact hnm) (by show sec < 3; omega) free (fun z => by exfalso; have z' : sec = 2 := z; omega) (fun _ => ⟨rfl, rfl⟩), ⟨S, Z, hF⟩, hKV, ?_, ?_, ?_, ?_, ?_, ?_, d2⟩
  · have hp := PrI_snoc (sI' := w2) (e := (sec, a.p, ln, sec, 0, [])) h1 [] [] (fun k hk => e4 k (by omega)) hnr (fun z => by exfalso; have z' : sec = 5 := z; omega) (fun _ => ⟨i, hi1, by rw [hi2]; exact hnm.symm, by
      unfold PlI
      rw [e5 1 (by omega), e5 2 (by omega), e5 3 (by omega), e5 4 (by omega)]
      exact ⟨n5, rfl, rfl, rfl⟩⟩)
    rw [List.append_nil, List.append_nil] at hp
    exact hp
  · rw [cI_snoc, nit_lb hlb]; exact e2
  · rw [lbI_snoc, if_pos hlb, e1, rg_cF (by decide)]
    exact RowL_rs hu1
  · rw [cnE_snoc, if_neg (by show ¬ sec = 2; omega), e1]
    show (rs sP 0 u).1 0 = _
    rw [rs_num (by decide)]; exact h7
  · rw [cI_snoc, nit_lb hlb, e1, cF_at]
  · rw [e1]; exact n5
  · rw [nrE_snoc, hnr, if_neg (by decide), e1]
    exact h10
/-- a near label -/
theorem C_nearL (hS : CSt X ns Y K V so va op re od E sec sF sN sP sI) (hsec : sec < 2) (hb : cI E < 4990) {a : AT} (hdg : isDg (tw X a.p) = true) (hv : a.v = tw X a.p - 48) {Q : Int32 → CS × CS × CS × CS → Nat × Nat → Prop} {k : CS → CS → Option ((Int32 × (CS × CS × CS × CS)) × (Nat × Nat))}
    (hk : ∀ sP' sI', sP'.1 4 = sP.1 4 → CSt X ns Y K V so va op re od (E ++ [(sec + 3, a.p, ln, sec, 0, [])]) sec sF sN sP' sI' → RC (tp sF sP' sI' x y) (k sP' sI') Q) :
    RC (tp sF sP sI x y) (ct (C_Prg_addNear a.v sP sI) (fun r u => k u.1 u.2)) Q := by
  obtain ⟨h1, h2, ⟨S, Z, hF⟩, hKV, hL, h6, h7, hc, h9, ⟨h10, h10'⟩, h11⟩ := hS
  obtain ⟨k1, k2, k3, k4⟩ := dg_n hdg
  obtain ⟨d, hd⟩ : ∃ d, d = k1 - 48 := ⟨_, rfl⟩
  have ev : a.v = nI d := by rw [hv, k4, show (48 : Int32) = nI 48 from rfl, pk_sub k2, hd]
  have hd10 : d < 10 := by omega
  have edg : dg X ((sec + 3, a.p, ln, sec, 0, []) : Ev) = d := by
    show (tw X a.p - 48).toNatClampNeg = d
    rw [← hv, ev, nI_clamp (by omega)]
  have hnr : isNr ((sec + 3, a.p, ln, sec, 0, []) : Ev) = true := by unfold isNr; simp only []; exact decide_eq_true (by omega)
  have hk0 := isDg_lt (nr_isDg X _ E rfl d hd10)
  rw [ev]
  obtain ⟨f1, f2⟩ := C_find hc hL (sP.2.1 20 d)
  rw [h10' d hd10, fnI_nI hk0 (by omega)] at f1 f2
  have hbody : RC (tp sF sP sI x y) (C_Prg_addNear (nI d) sP sI) (fun _ u c => c = tp sF u.1 u.2 x y ∧ u.1.1 4 = sP.1 4 ∧ CSt X ns Y K V so va op re od (E ++ [(sec + 3, a.p, ln, sec, 0, [])]) sec sF sN u.1 u.2) := by
    unfold C_Prg_addNear
    refine RC_n (nI_pos (by omega)) (RC_n ?_ (RC_gd (by rw [h10]; exact inB_nI hd10 (by decide)) ?_))
    · rw [h10]
      exact Int32.not_le.mpr ((nI_ltI (by omega) (by decide)).mpr hd10)
    rw [nI_clamp (by omega), h10' d hd10]
    refine RC_cr f1 (RC_gd (decide_eq_true f2) (RC_bnd (RC_gd (by rw [h10]; exact inB_nI hd10 (by decide)) (RC_bnd ?_))))
    rw [hc]
    rw [tp_i]
    have hL2 : LOk (cA sI (nrE X E d + 1) 3 (nI (cI E))) (cI E) := hL
    have n5 : (cA sP 20 d (nI (cI E))).1 5 = b2 (decide (sec = 1)) := h9
    refine RC_then (RC_padd (sP := cA sP 20 d (nI (cI E))) (sI := cA sI (nrE X E d + 1) 3 (nI (cI E))) hc hL2 (by omega) (by rw [n5]; exact b2_isB _) 1 (-1) 0 _ _) (fun r w c hw => ?_)
    obtain ⟨w1, w2⟩ := w
    obtain ⟨rfl, e1, e2, e3, e4, e5⟩ := hw
    simp only [] at e1 e2 e3 e4 e5
    rw [e3]
    unfold C_Prg_addNear_48
    refine RC_ret ⟨?_, by rw [e1]; rfl, ?_, NmE_snoc h2 (by show ¬ sec + 3 < 3; omega), ⟨S, Z, hF⟩, hKV, ?_, ?_, ?_, ?_, ?_, ?_, h11⟩
    · rw [tp_i, e1]
      rfl
    · refine PrI_near h1 hnr (by rw [edg]; exact hd10) (fun k hk1 hk2 => ?_) (fun j hj => ?_) ?_ ?_
      · rw [edg] at hk2
        rw [e4 k (by omega)]
        unfold cA
        simp only []
        rw [if_neg hk2]
      · rw [edg, e4 _ (by omega)]
        unfold cA
        simp only []
        rw [if_pos trivial]
        unfold upd
        rw [if_neg hj]
      · rw [edg, e4 _ (by omega)]
        unfold cA
        simp only []
        rw [if_pos trivial]
        unfold upd
        rw [if_pos rfl]
      · unfold PlI
        rw [e5 1 (by omega), e5 2 (by omega), e5 3 (by omega), e5 4 (by omega)]
        exact ⟨n5, rfl, rfl, rfl⟩
    · rw [cI_snoc, nit_nr hnr]; exact e2
    · rw [lbI_snoc, if_neg (by show ¬ sec + 3 < 2; omega), List.append_nil, e1, rg_cF (by decide), rg_cA (by decide)]
      exact h6
    · rw [cnE_snoc, if_neg (by show ¬ sec + 3 = 2; omega), e1]; exact h7
    · rw [cI_snoc, nit_nr hnr, e1, cF_at]
    · rw [e1]; exact n5
    · rw [nrE_snoc, if_pos hnr, edg, e1]
      refine ⟨h10, fun d2 hd2 => ?_⟩
      show (cA sP 20 d (nI (cI E))).2.1 20 d2 = _
      unfold cA updN
      simp only []
      rw [if_pos trivial]
      unfold upd
      by_cases hdd : d2 = d
      · rw [if_pos hdd, if_pos hdd]
      · rw [if_neg hdd, if_neg hdd]; exact h10' d2 hd2
  refine RC_then hbody (fun v u c hu => ?_)
  obtain ⟨rfl, hu1, hu2⟩ := hu
  exact hk u.1 u.2 hu1 hu2
end
