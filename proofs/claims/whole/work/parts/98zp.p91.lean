/-! ===== the class's settle() ===== -/
theorem GrR.nit {e f : Ev} (h : GrR e f) : nit f = nit e := by
  obtain ⟨h1, h2, h3, h4, h5, h6⟩ := h
  unfold _root_.Jvm.Pilot.CLineAssemblerLaw_law_r9830_e0b941.nit
  rw [h1]
  rcases h6 with z | ⟨mk, w, lev, R, z1, z2, z3, z4⟩
  · rw [z]
  · rw [z1, z4]; rfl
theorem GrR.itF {X : List Int32} {e f : Ev} (h : GrR e f) (s : Nat × (Nat → Nat)) : itF X s f = itF X s e := by
  have hn := h.nit
  obtain ⟨h1, h2, h3, h4, h5, h6⟩ := h
  unfold _root_.Jvm.Pilot.CLineAssemblerLaw_law_r9830_e0b941.itF isNr dg
  rw [hn, h1, h2]
theorem gr_itA (X : List Int32) : ∀ {E F : List Ev}, All2 GrR E F → ∀ s, F.foldl (itF X) s = E.foldl (itF X) s
  | [], [], _, s => rfl
  | e :: E, f :: F, h, s => by
    rw [List.foldl_cons, List.foldl_cons, h.1.itF]
    exact gr_itA X h.2 _
  | [], _ :: _, h, _ => h.elim
  | _ :: _, [], h, _ => h.elim
theorem gr_cI {E F : List Ev} (h : All2 GrR E F) : cI F = cI E := by
  rw [← itA_1 [], ← itA_1 []]
  unfold itA
  rw [gr_itA [] h]
theorem gr_nr {X : List Int32} {E F : List Ev} (h : All2 GrR E F) : nrE X F = nrE X E := by
  unfold nrE itA
  rw [gr_itA X h]
theorem gr_nx (X : List Int32) (d k : Nat) : ∀ {E F : List Ev}, All2 GrR E F → ∀ i, nxA X d k i F = nxA X d k i E
  | [], [], _, i => rfl
  | e :: E, f :: F, h, i => by
    have hn := h.1.nit
    have ei : isNr f = isNr e := by unfold isNr; rw [h.1.1]
    have ed : dg X f = dg X e := by unfold dg; rw [h.1.2.1]
    rw [nxA, nxA, ei, ed, hn, gr_nx X d k h.2]
  | [], _ :: _, h, _ => h.elim
  | _ :: _, [], h, _ => h.elim
theorem gr_lb : ∀ {E F : List Ev}, All2 GrR E F → ∀ i, lbI i F = lbI i E
  | [], [], _, i => rfl
  | e :: E, f :: F, h, i => by
    rw [lbI, lbI, h.1.nit, h.1.1, gr_lb h.2]
  | [], _ :: _, h, _ => h.elim
  | _ :: _, [], h, _ => h.elim
theorem gr_cn : ∀ {E F : List Ev}, All2 GrR E F → cnE F = cnE E
  | [], [], _ => rfl
  | e :: E, f :: F, h => by
    have := gr_cn h.2
    unfold cnE at this ⊢
    rw [List.filter_cons, List.filter_cons, h.1.1]
    split
    · rw [List.length_cons, List.length_cons, this]
    · exact this
  | [], _ :: _, h => h.elim
  | _ :: _, [], h => h.elim
theorem All2_splitL {α β : Type} {R : α → β → Prop} : ∀ {E1 : List α} {e : α} {E2 : List α} {F : List β}, All2 R (E1 ++ e :: E2) F → ∃ F1 f F2, F = F1 ++ f :: F2 ∧ All2 R E1 F1 ∧ R e f ∧ All2 R E2 F2
  | [], e, E2, f :: F, h => ⟨[], f, F, rfl, trivial, h.1, h.2⟩
  | a :: E1, e, E2, f :: F, h => by
    obtain ⟨F1, g, F2, h1, h2, h3, h4⟩ := All2_splitL h.2
    exact ⟨f :: F1, g, F2, by rw [h1]; rfl, ⟨h.1, h2⟩, h3, h4⟩
  | [], e, E2, [], h => h.elim
  | a :: E1, e, E2, [], h => h.elim
theorem grE_len (X : List Int32) (Λ : List Lb) (B : Nat) : ∀ (E : List Ev) (s : Sz), (grE X Λ B s E).length = E.length
  | [], s => rfl
  | e :: r, s => by rw [grE, List.length_cons, List.length_cons, grE_len]
section
variable {N : Nat} {X : List Int32} {ns : List (List Int32)} {Y K V so va op re od : List Int32} {sP sI0 sI sE sY sN sT : CS} {E : List Ev} {x y : Nat}
theorem gr_NmE {F : List Ev} (hg : All2 GrR E F) (h : NmE X ns so va E) : NmE X ns so va F := by
  intro i hi
  rcases h i hi with ⟨E1, e, E2, rfl, h2, h3, h4, h5⟩ | ⟨h1, h2⟩
  · obtain ⟨F1, f, F2, g1, g2, g3, g4⟩ := All2_splitL hg
    have hci := gr_cI g2
    refine Or.inl ⟨F1, f, F2, g1, by rw [g3.1]; exact h2, by rw [g3.2.1]; exact h3, fun z => ?_, fun z => ?_⟩
    · rw [g3.1] at z; rw [g3.2.2.2.2.1]; exact h4 z
    · rw [g3.1] at z; rw [hci]; exact h5 z
  · refine Or.inr ⟨fun f hf k => ?_, h2⟩
    obtain ⟨e, he, hr⟩ := All2_mem hg f hf
    rw [hr.2.1]
    exact h1 e he (by rw [← hr.1]; exact k)
theorem gr_PrI (h : PRG X ns Y K V so va E sP sI0) (hs : Same4 sI0 sI) (h4 : ∀ q, q < cI E → sI.2.1 (q + 1) 4 = glF X E sI0 q) : PrI X ns Y K V sI (grX X E) := by
  obtain ⟨hX, hW, hNm, hPr, hL, hc, hPl⟩ := h
  have hg := grE_all X (lbS (0, 0) E) (bsE E) E (0, 0) (WfE_SI hX hW)
  have hnx : ∀ d k, nxE X (grX X E) d k = nxE X E d k := fun d k => gr_nx X d k hg 10
  have pl : ∀ (k sec : Nat) (w : Int32), k < cI E → (grA X E).getD k false = false → PlI sI0 k sec w → PlI sI k sec w := by
    intro k sec w hk hgr hp
    unfold PlI at hp ⊢
    rw [hs.1 _ 1 (by decide), hs.1 _ 2 (by decide), hs.1 _ 3 (by decide), h4 k hk]
    unfold glF
    rw [hgr]
    exact hp
  refine ⟨fun d hd => ?_, fun F1 f F2 hF => ?_⟩
  · rw [hnx]
    exact pl d 0 _ (by have := cI_ge E; omega) (grA_no (Or.inl hd)) (hPr.1 d hd)
  · obtain ⟨E1, e, E2, hE, q1, q2, q3⟩ := All2_split (show All2 GrR E (F1 ++ f :: F2) by rw [← hF]; exact hg)
    have hci := gr_cI q1
    have hnr := gr_nr (X := X) q1
    have hcs := cI_split hE
    have hlen : F1.length = E1.length := q1.len.symm
    have hfe : F1 = grE X (lbS (0, 0) E) (bsE E) (0, 0) E1 ∧ f :: F2 = grE X (lbS (0, 0) E) (bsE E) (lay (0, 0) E1) (e :: E2) := by
      have e1 : F1 ++ f :: F2 = grE X (lbS (0, 0) E) (bsE E) (0, 0) E1 ++ grE X (lbS (0, 0) E) (bsE E) (lay (0, 0) E1) (e :: E2) := by
        rw [← grE_app, ← hF]
        show grE X (lbS (0, 0) E) (bsE E) (0, 0) E = _
        congr 1
      exact List.append_inj e1 (by rw [grE_len]; exact hlen)
    have hfit : f.2.2.2.2.2 = e.2.2.2.2.2.map (growI (ηE X E (lay (0, 0) E1) e) (aE E (lay (0, 0) E1) e)) := by
      have := hfe.2
      rw [grE] at this
      injection this with t1 t2
      rw [t1]
    obtain ⟨g1, g2, g3⟩ := hPr.2 E1 e E2 hE
    rw [hci, hnr]
    refine ⟨fun h5 j it hj => ?_, fun z => ?_, fun z => ?_⟩
    · have h5e : e.1 = 5 := by rw [← q2.1]; exact h5
      rw [hfit, List.getElem?_map] at hj
      cases hit : e.2.2.2.2.2[j]? with
      | none => rw [hit] at hj; cases hj
      | some i0 =>
        rw [hit] at hj
        have hi' : it = growI (ηE X E (lay (0, 0) E1) e) (aE E (lay (0, 0) E1) e) i0 := by simpa using hj.symm
        have hjl := getE_lt hit
        rw [nit_5 h5e] at hcs
        have hgr : (grA X E).getD (cI E1 + j) false = growB (ηE X E (lay (0, 0) E1) e) (aE E (lay (0, 0) E1) e) i0 := by
          rw [List.getD_eq_getElem?_getD, grA_at hE h5e hjl, List.getElem?_map, hit]
          rfl
        obtain ⟨i1, i2, i3, i4, i5, i6, i7, i8⟩ := g1 h5e j i0 hit
        unfold ItX
        rw [hs.1 _ 0 (by decide), hs.1 _ 1 (by decide), hs.1 _ 2 (by decide), hs.1 _ 3 (by decide), hs.1 _ 6 (by decide), hs.1 _ 7 (by decide), hs.1 _ 8 (by decide), h4 _ (by omega), q2.2.2.1, q2.2.2.2.1]
        unfold glF
        rw [hgr, hi']
        unfold growI
        by_cases hb : growB (ηE X E (lay (0, 0) E1) e) (aE E (lay (0, 0) E1) e) i0 = true
        · rw [if_pos hb, if_pos hb]
          refine ⟨i1, i2, i3, fun z => ?_, i5, i6, i7, i8⟩
          show _ = nI (2 * i0.2.2.1)
          rw [i4 z, show (2 : Int32) = nI 2 from rfl, pk_mul, Nat.mul_comm]
        · rw [if_neg hb, if_neg hb]
          exact ⟨i1, i2, i3, i4, i5, i6, i7, i8⟩
    · have ze : e.1 = 0 ∨ e.1 = 1 := by rw [← q2.1]; exact z
      obtain ⟨i, i1, i2, i3⟩ := g2 ze
      rw [nit_lb (by omega)] at hcs
      refine ⟨i, i1, by rw [q2.2.1]; exact i2, ?_⟩
      rw [q2.2.2.2.1]
      exact pl _ _ _ (by omega) (grA_no (Or.inr ⟨E1, e, E2, hE, by omega, by omega, rfl⟩)) i3
    · have ze : e.1 = 3 ∨ e.1 = 4 := by rw [← q2.1]; exact z
      have hi3 := g3 ze
      rw [nit_nr (by unfold isNr; exact decide_eq_true ze)] at hcs
      have edg : dg X f = dg X e := by unfold dg; rw [q2.2.1]
      rw [q2.2.2.2.1, hnx, edg]
      exact pl _ _ _ (by omega) (grA_no (Or.inr ⟨E1, e, E2, hE, by omega, by omega, rfl⟩)) hi3
theorem muE_cI : ∀ (E : List Ev), (∀ e ∈ E, e.1 ≠ 5 → e.2.2.2.2.2 = []) → muE E ≤ 2 * (E.map nit).sum
  | [], _ => Nat.le_refl _
  | e :: E, h => by
    rw [muE_cons, List.map_cons, List.sum_cons]
    have ih := muE_cI E (fun x hx => h x (List.mem_cons_of_mem _ hx))
    have one : (e.2.2.2.2.2.map muI).sum ≤ 2 * nit e := by
      by_cases h5 : e.1 = 5
      · rw [nit_5 h5]
        have : ∀ l : List AI, (l.map muI).sum ≤ 2 * l.length := by
          intro l
          induction l with
          | nil => exact Nat.le_refl _
          | cons i l ih =>
            rw [List.map_cons, List.sum_cons, List.length_cons]
            have : muI i ≤ 2 := by
              unfold muI
              split
              · have : lvM i.1 ≤ 2 := by unfold lvM; split <;> omega
                omega
              · omega
            omega
        exact this _
      · rw [h e List.mem_cons_self h5]; exact Nat.zero_le _
    omega
def StlP (X : List Int32) (ns : List (List Int32)) (Y K V so va S : List Int32) (E : List Ev) (R : Nat × List Ev) (sE0 sP sI : CS) (u : CS × CS × CS × CS) : Prop :=
  PRG X ns Y K V so va R.2 u.2.2.1 u.2.2.2 ∧ u.1 = cF sE0 0 (nI R.1) ∧ (∃ Z, FR4 u.2.1 K V S Z) ∧ (∀ j, j ≠ 2 → j ≠ 3 → j ≠ 7 → u.2.2.1.1 j = sP.1 j) ∧ u.2.2.1.2 = sP.2 ∧ u.2.2.2.2.2 = sI.2.2 ∧ All2 GrR E E ∧ cI R.2 = cI E ∧ (∀ i, lbI i R.2 = lbI i E) ∧ cnE R.2 = cnE E
theorem GrR_rf (E : List Ev) : All2 GrR E E := by
  induction E with
  | nil => trivial
  | cons e r ih => exact ⟨⟨rfl, rfl, rfl, rfl, rfl, Or.inl rfl⟩, ih⟩
theorem C_settle22 (hN : 70000 < N) (hNL : NmS sN ns so va op re od) (hK : K.length ≤ 60000) {S : List Int32} {sE0 : CS} {M : Nat} (hM : M < 2 ^ 30) : ∀ (n k m : Nat) (E : List Ev) (Z : List Int32) (sF sP sI : CS), muE E ≤ n → n < m → k + muE E ≤ M → PRG X ns Y K V so va E sP sI → sP.2.2 20 = 10 → FR4 sF K V S Z →
    RC (fp sF x y) (C_Enc_settle_22 N m (nI M) (cF sE0 0 (nI k)) sY sF sN sT sP sI) (fun v u c => c = fp u.2.1 x y ∧ StlP X ns Y K V so va S E (strE X n k E) sE0 sP sI u) := by
  intro n
  induction n with
  | zero =>
    intro k m E Z sF sP sI hmu hm hkM h h20 hF
    obtain ⟨m', rfl⟩ : ∃ m', m = m' + 1 := ⟨m - 1, by omega⟩
    have h' := h
    obtain ⟨hX, hW, hNm, hPr, hL, hc, hPl⟩ := h
    rw [C_Enc_settle_22]
    refine RC_n ?_ ?_
    · rw [cF_at]; exact fun z => absurd ((nI_ltI (by omega) (by omega)).mp z) (by omega)
    have hlen := C_len4 (x := x) (y := y) (sE := cF sE0 0 (nI k)) (sY := sY) (sT := sT) hN h' hNL h20 hK (cI E) 0 N false Z sF sI (by omega) (by have := hL.1; have := hL.2.2.1; omega) ⟨fun _ _ _ => rfl, rfl⟩ (fun q hq => absurd hq (Nat.not_lt_zero _)) (fun q _ => rfl) hF
    unfold C_Enc_lengthenAll
    refine RC_then hlen (fun v u c hu => ?_)
    obtain ⟨rfl, rfl, ⟨Z', u3⟩, u4, u5⟩ := hu
    rw [List.drop_zero, Bool.false_or, grA_any hW.its]
    have han : anX X E = false := by
      have := mu_gr (X := X) (Λ := lbS (0, 0) E) (B := bsE E) (s := (0, 0)) (WfE_SI hX hW)
      by_cases z : anX X E = true
      · rw [if_pos z] at this; omega
      · simpa using z
    rw [han]
    refine RC_y rfl ?_
    unfold C_Enc_settle_57
    have hsame : ∀ q, q < cI E → u.2.2.1 (q + 1) 4 = sI.2.1 (q + 1) 4 := by
      intro q hq
      rw [u5 q hq]
      unfold glF
      have hg : (grA X E).getD q false = false := by
        have hany := grA_any (X := X) hW.its
        rw [han, List.any_eq_false] at hany
        rw [gD_e (by rw [grA_len]; exact hq)]
        have := hany _ (List.getElem_mem (by rw [grA_len]; exact hq))
        simpa using this
      rw [hg]; rfl
    have hall : ∀ q, q < cI E → ∀ j, u.2.2.1 (q + 1) j = sI.2.1 (q + 1) j := by
      intro q hq j
      by_cases hj : j = 4
      · rw [hj]; exact hsame q hq
      · exact u4.1 _ j hj
    have hgid : grX X E = E := grE_id han
    have hP2 := gr_PrI h' u4 u5
    rw [hgid] at hP2
    refine RC_ret ⟨rfl, ⟨hX, hW, hNm, hP2, ?_, hc, ?_⟩, rfl, ⟨Z', u3⟩, fun _ _ _ _ => rfl, rfl, u4.2, GrR_rf E, rfl, fun _ => rfl, rfl⟩
    · unfold LOk; rw [u4.2]; exact hL
    · obtain ⟨p1, p2, p3, p4⟩ := hPl
      refine ⟨p1, p2, p3, fun E1 e E2 hE => ⟨fun h5 j it hj => ?_, fun h5 h2 => ?_⟩⟩
      · have hcs := cI_split (show E = E1 ++ e :: E2 from hE)
        rw [nit_5 h5] at hcs
        have hjl := getE_lt hj
        have := (p4 E1 e E2 hE).1 h5 j it hj
        rw [hall (cI E1 + j) (by omega) 5, hall (cI E1 + j) (by omega) 4]
        exact this
      · have hcs := cI_split (show E = E1 ++ e :: E2 from hE)
        have : nit e = 1 := by unfold nit; rw [if_neg h2, if_neg h5]
        rw [hall (cI E1) (by omega) 5]
        exact (p4 E1 e E2 hE).2 h5 h2
  | succ n ih =>
    intro k m E Z sF sP sI hmu hm hkM h h20 hF
    obtain ⟨m', rfl⟩ : ∃ m', m = m' + 1 := ⟨m - 1, by omega⟩
    have h' := h
    obtain ⟨hX, hW, hNm, hPr, hL, hc, hPl⟩ := h
    rw [C_Enc_settle_22]
    refine RC_n ?_ ?_
    · rw [cF_at]; exact fun z => absurd ((nI_ltI (by omega) (by omega)).mp z) (by omega)
    have hlen := C_len4 (x := x) (y := y) (sE := cF sE0 0 (nI k)) (sY := sY) (sT := sT) hN h' hNL h20 hK (cI E) 0 N false Z sF sI (by omega) (by have := hL.1; have := hL.2.2.1; omega) ⟨fun _ _ _ => rfl, rfl⟩ (fun q hq => absurd hq (Nat.not_lt_zero _)) (fun q _ => rfl) hF
    unfold C_Enc_lengthenAll
    refine RC_then hlen (fun v u c hu => ?_)
    obtain ⟨rfl, rfl, ⟨Z', u3⟩, u4, u5⟩ := hu
    rw [List.drop_zero, Bool.false_or, grA_any hW.its]
    have hP2 := gr_PrI h' u4 u5
    by_cases han : anX X E = true
    · rw [han]
      refine RC_n (by decide) (RC_bnd ?_)
      have hg := grE_all X (lbS (0, 0) E) (bsE E) E (0, 0) (WfE_SI hX hW)
      have hci : cI (grX X E) = cI E := gr_cI hg
      have hW2 : WfE X (grX X E) := WfE_gr hW hg
      have hmu2 : muE (grX X E) + 1 ≤ muE E := by
        have := mu_gr (X := X) (Λ := lbS (0, 0) E) (B := bsE E) (s := (0, 0)) (WfE_SI hX hW)
        rw [if_pos han] at this
        exact this
      have hL2 : LOk u.2 (cI (grX X E)) := by unfold LOk; rw [u4.2, hci]; exact hL
      obtain ⟨sP2, sI2, c1, c2, c3, c4, c5, c6, c7⟩ := C_place (N := N) (sP := sP) hX hW2 hP2 hL2 (by rw [hci]; exact hc) (by rw [hci]; have := hL.1; have := hL.2.2.1; omega)
      refine RC_cl c1 ?_
      rw [cF_cF, cF_at, show nI k + 1 = nI (k + 1) from nI_add k 1]
      have hst : strE X (n + 1) k E = strE X n (k + 1) (grX X E) := by rw [strE, if_pos han]
      rw [hst]
      refine RC_imp (ih (k + 1) m' (grX X E) Z' u.1 sP2 sI2 (by omega) (by omega) (by omega) ⟨hX, hW2, gr_NmE hg hNm, c2, c3, by rw [c5 1 (by decide) (by decide) (by decide), hci]; exact hc, c4⟩ (by rw [c6]; exact h20) u3) (fun v w c hw => ?_)
      obtain ⟨w1, w2, w3, w4, w5, w6, w7, w8, w9, w10, w11⟩ := hw
      refine ⟨w1, w2, w3, w4, fun j a b c => (w5 j a b c).trans (c5 j a b c), w6.trans c6, w7.trans (c7.trans u4.2), GrR_rf E, w9.trans hci, fun i => (w10 i).trans (gr_lb hg i), w11.trans (gr_cn hg)⟩
    · have han' : anX X E = false := by simpa using han
      rw [han']
      refine RC_y rfl ?_
      unfold C_Enc_settle_57
      have hst : strE X (n + 1) k E = (k, E) := by rw [strE, if_neg han]
      rw [hst]
      have hsame : ∀ q, q < cI E → u.2.2.1 (q + 1) 4 = sI.2.1 (q + 1) 4 := by
        intro q hq
        rw [u5 q hq]
        unfold glF
        have hg : (grA X E).getD q false = false := by
          have hany := grA_any (X := X) hW.its
          rw [han', List.any_eq_false] at hany
          rw [gD_e (by rw [grA_len]; exact hq)]
          have := hany _ (List.getElem_mem (by rw [grA_len]; exact hq))
          simpa using this
        rw [hg]; rfl
      have hall : ∀ q, q < cI E → ∀ j, u.2.2.1 (q + 1) j = sI.2.1 (q + 1) j := by
        intro q hq j
        by_cases hj : j = 4
        · rw [hj]; exact hsame q hq
        · exact u4.1 _ j hj
      have hgid : grX X E = E := grE_id han'
      rw [hgid] at hP2
      refine RC_ret ⟨rfl, ⟨hX, hW, hNm, hP2, ?_, hc, ?_⟩, rfl, ⟨Z', u3⟩, fun _ _ _ _ => rfl, rfl, u4.2, GrR_rf E, rfl, fun _ => rfl, rfl⟩
      · unfold LOk; rw [u4.2]; exact hL
      · obtain ⟨p1, p2, p3, p4⟩ := hPl
        refine ⟨p1, p2, p3, fun E1 e E2 hE => ⟨fun h5 j it hj => ?_, fun h5 h2 => ?_⟩⟩
        · have hcs := cI_split (show E = E1 ++ e :: E2 from hE)
          rw [nit_5 h5] at hcs
          have hjl := getE_lt hj
          have := (p4 E1 e E2 hE).1 h5 j it hj
          rw [hall (cI E1 + j) (by omega) 5, hall (cI E1 + j) (by omega) 4]
          exact this
        · have hcs := cI_split (show E = E1 ++ e :: E2 from hE)
          have : nit e = 1 := by unfold nit; rw [if_neg h2, if_neg h5]
          rw [hall (cI E1) (by omega) 5]
          exact (p4 E1 e E2 hE).2 h5 h2
end
