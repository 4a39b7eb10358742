/-! ===== again(): a statement of a laid text ===== -/
def adS (B : Nat) (s : Sz) (sec : Nat) : Nat := if sec = 1 then B + s.2 else s.1
abbrev bsE (E : List Ev) : Nat := baseN (lay (0, 0) E).1
abbrev aE (E : List Ev) (s : Sz) (e : Ev) : Int32 := nI (adS (bsE E) s e.2.2.2.1)
abbrev ηE (X : List Int32) (E : List Ev) (s : Sz) (e : Ev) : Int32 → AT → Int32 × Bool := ηR X (lbS (0, 0) E) (nI (bsE E)) (aE E s e) e.2.1
/-- a jump that must get longer -/
def growB (η : Int32 → AT → Int32 × Bool) (a : Int32) (i : AI) : Bool := isJ i.1 && decide (Lof i.2.2.1 < lvM i.1) && !(evV η i.2.2.2.1).2.1 && !(evV η i.2.2.2.1).2.2 && !(fitB (mkF i.1 (nI i.2.2.1)) ((evV η i.2.2.2.1).1 - a))
def growI (η : Int32 → AT → Int32 × Bool) (a : Int32) (i : AI) : AI := if growB η a i = true then (i.1, i.2.1, 2 * i.2.2.1, i.2.2.2) else i
def volA (j : Nat) : Bool := decide (9 ≤ j ∧ j ≤ 13) || decide (16 ≤ j ∧ j ≤ 20) || decide (22 ≤ j ∧ j ≤ 28)
def FA (σ τ : MS) : Prop := (∀ j, volA j = false → τ.1 j = σ.1 j) ∧ (∀ k, k ≠ 7 → τ.2 k = σ.2 k)
theorem FA.rf (σ : MS) : FA σ σ := ⟨fun _ _ => rfl, fun _ _ => rfl⟩
theorem FA.tr {a b c : MS} (h1 : FA a b) (h2 : FA b c) : FA a c := ⟨fun j x => (h2.1 j x).trans (h1.1 j x), fun k x => (h2.2 k x).trans (h1.2 k x)⟩
theorem FA.kf {σ τ : MS} (h : FA σ τ) : KF σ τ := ⟨h.1 1 (by decide), h.1 2 (by decide), h.1 3 (by decide), h.2 0 (by decide), h.2 1 (by decide)⟩
theorem volA_Z {j : Nat} (h : volA j = false) : volZ j = false ∧ j ≠ 16 ∧ j ≠ 17 ∧ j ≠ 18 ∧ j ≠ 19 ∧ j ≠ 20 ∧ j ≠ 22 ∧ j ≠ 23 ∧ j ≠ 9 := by
  unfold volA at h
  simp only [Bool.or_eq_false_iff, decide_eq_false_iff_not] at h
  refine ⟨?_, by omega, by omega, by omega, by omega, by omega, by omega, by omega, by omega⟩
  unfold volZ
  simp only [Bool.or_eq_false_iff, decide_eq_false_iff_not]
  omega
def AgC (N : Nat) (X : List Int32) (E : List Ev) (ln : Nat) (σ : MS) : Prop := 4200 < N ∧ TX σ (tw X) X.length ∧ LBs X σ (lbS (0, 0) E) ∧ σ.1 6 = nI (lay (0, 0) E).1 ∧ σ.1 15 = nI ln ∧ ln < 10000 ∧ σ.1 14 = 0 ∧ WfE X E
theorem lay_all {X : List Int32} (hX : X.length ≤ 4096) {E : List Ev} (hW : WfE X E) : (lay (0, 0) E).1 + (lay (0, 0) E).2 ≤ 163840000 := by
  have h := WfE_len hW
  exact lay_pre (E2 := []) (by rw [List.append_nil]; exact WfE_SI hX hW) (by rw [List.append_nil]; omega)
theorem lay_at {X : List Int32} (hX : X.length ≤ 4096) {E E1 E2 : List Ev} {e : Ev} (hW : WfE X E) (hE : E = E1 ++ e :: E2) : (lay (0, 0) E1).1 + (lay (0, 0) E1).2 ≤ 163840000 := by
  have h := WfE_len hW
  exact lay_pre (E2 := e :: E2) (by rw [← hE]; exact WfE_SI hX hW) (by rw [← hE]; omega)
section
variable {N : Nat} {X : List Int32} {E : List Ev} {σ : MS} {ln : Nat}
theorem M_addressOf_eq (hX : X.length ≤ 4096) (hW : WfE X E) (h6 : σ.1 6 = nI (lay (0, 0) E).1) {E1 E2 : List Ev} {e : Ev} {i : Nat} (hE : E = E1 ++ e :: E2) (h5 : e.1 = 5) (hi : i < 1030) (hq : StQ σ i e) (ho : σ.2 3 i = nI (offS (lay (0, 0) E1) e.2.2.2.1)) : M_addressOf (nI i) σ = some (aE E (lay (0, 0) E1) e) := by
  have hw := hW E1 e E2 hE
  have hSI := (WfE_SI hX hW e (by rw [hE]; simp)).1 h5
  have hla := lay_all hX hW
  unfold M_addressOf M_addressOf_23
  rw [gd_t (inB_nI hi (by omega)), M_sectionOf_eq hi hq hSI (by have := hw.2.1; omega) hw.2.2.1]
  simp only [cr, Option.bind_some]
  rw [M_base_eq h6 (by omega), nI_clamp (by omega), ho]
  unfold aE adS offS
  have hs := hw.2.2.1
  by_cases h1 : e.2.2.2.1 = 1
  · rw [if_pos (by rw [h1]; rfl), if_pos h1, if_pos h1]
    show some _ = _
    rw [nI_add, Nat.add_comm]
  · rw [if_neg (by rw [show e.2.2.2.1 = 0 by omega]; decide), if_neg h1, if_neg h1]
    rw [show (0 : Int32) = nI 0 from rfl, nI_add]
    rfl
set_option maxHeartbeats 1000000 in
theorem M_again_eq (C : AgC N X E ln σ) {E1 E2 : List Ev} {e : Ev} {i : Nat} (hE : E = E1 ++ e :: E2) (h5 : e.1 = 5) (hi : i < 1030) (hq : StQ σ i e) (ho : σ.2 3 i = nI (offS (lay (0, 0) E1) e.2.2.2.1)) {md : Int32} (hmd : md = 1 ∨ md = 2 ∨ md = 3) :
    RR (M_again N (nI i) md σ) (fun _ σ' => (md = 2 ∧ ckB (ηE X E (lay (0, 0) E1) e) (aE E (lay (0, 0) E1) e) e.2.2.2.2.2 ≠ 0 ∧ σ'.1 14 = fl ln (ckB (ηE X E (lay (0, 0) E1) e) (aE E (lay (0, 0) E1) e) e.2.2.2.2.2) ∧ KF σ σ') ∨ (¬ (md = 2 ∧ ckB (ηE X E (lay (0, 0) E1) e) (aE E (lay (0, 0) E1) e) e.2.2.2.2.2 ≠ 0) ∧ FA σ σ' ∧ (∀ it, e.2.2.2.2.2 = [it] → isJ it.1 = true → σ'.1 23 = b2 (decide (md = 1) && growB (ηE X E (lay (0, 0) E1) e) (aE E (lay (0, 0) E1) e) it)) ∧ (md = 3 → ckB (ηE X E (lay (0, 0) E1) e) (aE E (lay (0, 0) E1) e) e.2.2.2.2.2 = 0 → σ'.1 22 = gwi (σ.1 21) (byB (ηE X E (lay (0, 0) E1) e) (aE E (lay (0, 0) E1) e) e.2.2.2.2.2).reverse))) := by
  obtain ⟨hN, T0, hL, h6, h15, hln, h14, hW⟩ := C
  have hX := T0.small
  have hw := hW E1 e E2 hE
  have hpos := hw.2.1
  have hsec := hw.2.2.1
  have hSI := (WfE_SI hX hW e (by rw [hE]; simp)).1 h5
  have hla := lay_all hX hW
  obtain ⟨l1, l2, l3⟩ := SIt_lev hSI
  unfold M_again
  refine RR_bnd ?_
  refine RR_cr (M_addressOf_eq hX hW (σ := sF σ 18 (nI i)) h6 hE h5 hi hq ho) (RR_bnd ?_)
  refine RR_cr (M_sectionOf_eq (σ := sF (sF σ 18 (nI i)) 19 (aE E (lay (0, 0) E1) e)) hi hq hSI (by omega) hsec) (RR_bnd (RR_gd (inB_nI hi (by omega)) ?_))
  rw [nI_clamp (by omega)]
  rw [show (sF (sF (sF σ 18 (nI i)) 19 (aE E (lay (0, 0) E1) e)) 16 (nI e.2.2.2.1)).2 2 i = _ from hq.1, pl_start (by omega) l1 hsec l2]
  generalize e5 : sF (sF (sF σ 18 (nI i)) 19 (aE E (lay (0, 0) E1) e)) 16 (nI e.2.2.2.1) = σ5
  have F5 : FA σ σ5 := by
    rw [← e5]
    refine ⟨fun j hj => ?_, fun _ _ => rfl⟩
    have := volA_Z hj
    rw [sF_ne _ _ this.2.1, sF_ne _ _ this.2.2.2.2.1, sF_ne _ _ this.2.2.2.1]
  have s19 : σ5.1 19 = aE E (lay (0, 0) E1) e := by rw [← e5]; rfl
  have s18 : σ5.1 18 = nI i := by rw [← e5]; rfl
  clear e5
  obtain ⟨a, r, o, lev, w1, w2, w3, w4, w5, w6, w7⟩ := hw.2.2.2.2.1 h5
  have hlev : (levI e.2.2.2.2.2).1 = lev ∧ lev ≤ 2 := by
    rcases w7 with ⟨it, hit, hJ, j1, j2⟩ | ⟨hn, hl0⟩
    · obtain ⟨g1, g2, -⟩ := stm_J hit hJ
      have hJ' : isJ (srO o r).2.2.1 = true := by rw [g2] at hJ; exact hJ
      have hm := (len0_J (w := it.2.1) hJ).2.2
      have el : e.2.2.2.2.2 = [((srO o r).2.2.1, (srO o r).2.1, 2 * 2 ^ lev, (srO o r).2.2.2.1, [])] := by
        rw [w6, g1]
        unfold sI curL
        simp only [List.map_cons, List.map_nil, hJ', if_true]
      rw [el, levI_J hJ' (by omega)]
      exact ⟨rfl, by omega⟩
    · rw [w6, curL_id hn, levI_0 hn, hl0]; exact ⟨rfl, by omega⟩
  have hstm : stm (ηE X E (lay (0, 0) E1) e) (loR X (lbS (0, 0) E)) nk o r = stK X (LbE E1) o r := by
    rw [hE]
    exact stm_again w5 _ _ _
  have eη : η0 X (lbS (0, 0) E) (st0 σ5 md e.2.1) e.2.1 = ηE X E (lay (0, 0) E1) e := by
    show ηR X (lbS (0, 0) E) (baseR (st0 σ5 md e.2.1)) ((st0 σ5 md e.2.1).1 19) e.2.1 = _
    rw [baseR_eq (σ := st0 σ5 md e.2.1) (T := (lay (0, 0) E).1) (by show σ5.1 6 = _; rw [F5.1 6 (by decide)]; exact h6) (by omega), show (st0 σ5 md e.2.1).1 19 = aE E (lay (0, 0) E1) e from s19]
  have CC : Cx N X (st0 σ5 md e.2.1) (lbS (0, 0) E) ln i e.2.1 := by
    refine ⟨hN, ((((F5.kf.tx T0).sFk 17 _ (by decide)).sFk 9 _ (by decide)).sFk 20 _ (by decide)).sFk 22 _ (by decide), ⟨?_, hL.2.1, fun k hk => ?_⟩, ?_, hln, s18, hi, ?_, by omega, ?_⟩
    · show σ5.1 5 = _; rw [F5.1 5 (by decide)]; exact hL.1
    · show _ ∧ _ ∧ σ5.2 5 k = _ ∧ σ5.2 6 k = _
      rw [F5.2 5 (by decide), F5.2 6 (by decide)]; exact hL.2.2 k hk
    · show σ5.1 15 = _; rw [F5.1 15 (by decide)]; exact h15
    · show σ5.2 2 i &&& 8191 = _; rw [F5.2 2 (by decide), hq.1, pl_start (by omega) l1 hsec l2]
    · show σ5.1 14 = 0; rw [F5.1 14 (by decide)]; exact h14
  have hPx : Px (st0 σ5 md e.2.1) i e.2.1 lev e.2.2.2.1 (levI e.2.2.2.2.2).2 := by
    refine ⟨?_, by omega, hsec, l2, fun z => ?_⟩
    · show σ5.2 2 i = _; rw [F5.2 2 (by decide), hq.1, hlev.1]
    · exfalso
      have z' : md = 0 := z
      rcases hmd with m | m | m <;> rw [m] at z' <;> exact absurd z' (by decide)
  have hmd0 : md ≠ 0 := by rcases hmd with m | m | m <;> rw [m] <;> decide
  -- jumps and their levels
  have lok : ∀ s : SR, s = srO o r → isJ s.2.2.1 = true → (o.1 = 9 ∨ o.1 = 0) → Lok (st0 σ5 md e.2.1) lev s := by
    intro s hs hJ hro _
    have h9 : ¬ (o.1 = 1 ∨ o.1 = 2) ∧ o.1 ≠ 3 ∧ o.1 ≠ 4 ∧ o.1 ≠ 5 ∧ o.1 ≠ 6 ∧ o.1 ≠ 7 ∧ o.1 ≠ 8 := by
      rcases hro with z | z <;> rw [z] <;> decide
    have est : stK X (LbE E1) o r = ((srO o r).1, sI (srO o r), (srO o r).2.2.2.2) := by
      show stm _ _ _ _ _ = _
      unfold stm
      rw [if_neg h9.1, if_neg h9.2.1, if_neg h9.2.2.1, if_neg h9.2.2.2.1, if_neg h9.2.2.2.2.1, if_neg h9.2.2.2.2.2.1, if_neg h9.2.2.2.2.2.2]
    rw [est] at w5 w7
    subst hs
    refine ⟨w5, ?_⟩
    rcases w7 with ⟨it, hit, hJ2, j1, j2⟩ | ⟨hn, -⟩
    · rw [show it = _ from List.mem_singleton.mp hit] at j1 j2
      exact ⟨j1, j2⟩
    · have := hn _ (List.mem_singleton.mpr rfl)
      rw [show isJ (srO o r).2.2.1 = false from this] at hJ
      cases hJ
  have hz0 : (stm (η0 X (lbS (0, 0) E) (st0 σ5 md e.2.1) e.2.1) (loR X (lbS (0, 0) E)) nk o r).1 = 0 := by rw [eη, hstm]; exact w5
  have hlokO : LokO (st0 σ5 md e.2.1) lev o r := by
    refine ⟨fun h9 hr => ?_, fun h0 hj => ?_⟩
    · have es : srO o r = shp [120] r (o.2.2 ||| 128) 0 [] := by unfold srO; rw [if_pos h9, if_neg (by rw [hr]; decide)]
      refine lok _ es.symm ?_ (Or.inl h9)
      have hz1 : (srO o r).1 = 0 := by
        have := w5
        change (stm _ _ _ _ _).1 = 0 at this
        unfold stm at this
        rw [if_neg (by rw [h9]; decide), if_neg (by rw [h9]; decide), if_neg (by rw [h9]; decide), if_neg (by rw [h9]; decide), if_neg (by rw [h9]; decide), if_neg (by rw [h9]; decide), if_neg (by rw [h9]; decide)] at this
        exact this
      rw [es] at hz1
      rw [mkLast [120] _ _ _ _ (by simp) (by decide) (by decide) hz1]
      decide
    · have es : srO o r = shp o.2.1 r o.2.2 0 [] := by unfold srO; rw [if_neg (by rw [h0]; decide), if_neg (by rw [h0]; decide)]
      refine lok _ es.symm ?_ (Or.inr h0)
      have hz1 : (srO o r).1 = 0 := by
        have := w5
        change (stm _ _ _ _ _).1 = 0 at this
        unfold stm at this
        rw [if_neg (by rw [h0]; decide), if_neg (by rw [h0]; decide), if_neg (by rw [h0]; decide), if_neg (by rw [h0]; decide), if_neg (by rw [h0]; decide), if_neg (by rw [h0]; decide), if_neg (by rw [h0]; decide)] at this
        exact this
      rw [es] at hz1
      unfold lastJ at hj
      simp only [decide_eq_true_eq] at hj
      have hf : o.2.1.getLastD 0 ≠ 0 ∧ ¬ (o.2.1.getLastD 0 = 44 ∨ o.2.1.getLastD 0 = 40 ∨ o.2.1.getLastD 0 = 41) ∧ isRM (o.2.1.getLastD 0) = false ∧ isJ (o.2.1.getLastD 0) = true := by
        rcases hj with z | z | z <;> rw [z] <;> decide
      rw [mkLast o.2.1 _ _ _ _ (ends_m rfl hf.1) hf.2.1 hf.2.2.1 hz1]
      exact hf.2.2.2
  refine RR_then (A_stm σ5 hmd0 CC hPx (by omega) w1 w3 w4 hz0 hlokO (fun _ => hlev.2)) (fun _ σ8 h8 => RR_ret ?_)
  unfold ArP at h8
  rw [eη, hstm, show (st0 σ5 md e.2.1).1 19 = aE E (lay (0, 0) E1) e from s19, ← w6] at h8
  have kf0 : KF σ (st0 σ5 md e.2.1) := F5.kf.tr ⟨rfl, rfl, rfl, rfl, rfl⟩
  rcases h8.cases with ⟨c1, c2, c3⟩ | ⟨c1, Bs, c2, c3⟩
  · exact Or.inl ⟨c1, c2, c3.2.2, kf0.tr c3.1.kf⟩
  · right
    have c1' : ¬ (md = 2 ∧ ckB (ηE X E (lay (0, 0) E1) e) (aE E (lay (0, 0) E1) e) e.2.2.2.2.2 ≠ 0) := c1
    obtain ⟨qx, -, hg⟩ := c2
    have hFZ := hg.1
    -- the state from which it is framed
    have hb : (∀ j, j ≠ 16 → j ≠ 23 → (bsA (ηE X E (lay (0, 0) E1) e) (loR X (lbS (0, 0) E)) (st0 σ5 md e.2.1) i lev o r).1 j = (st0 σ5 md e.2.1).1 j) ∧ (∀ k, (bsA (ηE X E (lay (0, 0) E1) e) (loR X (lbS (0, 0) E)) (st0 σ5 md e.2.1) i lev o r).2 k = σ5.2 k) := by
      unfold bsA
      split
      · exact ⟨fun j n1 n2 => sF_ne _ _ n1, fun k => rfl⟩
      · split
        · rename_i c7
          refine ⟨fun j _ _ => rfl, fun k => ?_⟩
          by_cases k4 : k = 4
          · rw [k4, sA_eq]
            funext x
            by_cases hx : x = i
            · rw [hx, pk_us]
              show _ = σ5.2 4 i
              have q2 := hq.2
              have e7 : e.2.2.2.2.2 = [(3, (f1T (ηE X E (lay (0, 0) E1) e) (loR X (lbS (0, 0) E)) 0 10 r).2.1, 0, [], [])] := by
                rw [w6, ← hstm]
                unfold stm
                rw [if_neg (by rw [c7]; decide), if_neg (by rw [c7]; decide), if_neg (by rw [c7]; decide), if_neg (by rw [c7]; decide), if_neg (by rw [c7]; decide), if_pos c7]
                rfl
              rw [e7, levI_0 (fun i hi => by rw [List.mem_singleton.mp hi]; rfl), if_pos rfl] at q2
              rw [F5.2 4 (by decide), q2]
              rfl
            · rw [pk_un hx]; rfl
          · rw [sA_ne k4]; rfl
        · split
          · exact ⟨fun j n1 n2 => sF_ne _ _ n2, fun k => rfl⟩
          · exact ⟨fun _ _ _ => rfl, fun k => rfl⟩
    refine ⟨c1', ⟨fun j hj => ?_, fun k hk => ?_⟩, fun it hit hJ => ?_, fun h3 hck => ?_⟩
    · have v := volA_Z hj
      rw [hFZ.1 j v.1, hb.1 j v.2.1 v.2.2.2.2.2.2.2.1]
      show (sF (sF (sF (sF σ5 17 md) 9 (nI e.2.1)) 20 0) 22 0).1 j = _
      rw [sF_ne _ _ v.2.2.2.2.2.2.1, sF_ne _ _ v.2.2.2.2.2.1, sF_ne _ _ v.2.2.2.2.2.2.2.2, sF_ne _ _ v.2.2.1]
      exact F5.1 j hj
    · rw [hFZ.2 k hk, hb.2 k]; exact F5.2 k hk
    · -- whether it grows
      have hit2 : ∃ jt, jt ∈ (stK X (LbE E1) o r).2.1 ∧ curL lev jt = it := by
        rw [w6] at hit
        have : it ∈ List.map (curL lev) (stK X (LbE E1) o r).2.1 := by rw [hit]; exact List.mem_singleton.mpr rfl
        obtain ⟨jt, j1, j2⟩ := List.mem_map.mp this
        exact ⟨jt, j1, j2⟩
      obtain ⟨jt, j1, j2⟩ := hit2
      have hJj : isJ jt.1 = true := by
        rw [← j2] at hJ
        unfold curL at hJ
        split at hJ
        · exact hJ
        · exact hJ
      obtain ⟨g1, g2, g3⟩ := stm_J j1 hJj
      have hJ' : isJ (srO o r).2.2.1 = true := by rw [g2] at hJj; exact hJj
      have eit : it = ((srO o r).2.2.1, (srO o r).2.1, 2 * 2 ^ lev, (srO o r).2.2.2.1, []) := by
        rw [← j2, g2]
        unfold curL
        simp only [hJ', if_true]
      have hro : o.1 = 0 ∨ o.1 = 9 ∨ o.1 = 10 := by
        have hrk := (opO_ok w4).2.1
        unfold roleOk at hrk
        have hrk := of_decide_eq_true hrk
        obtain ⟨n1, n3, n4, n5, n6, n7, n8⟩ := g3
        simp only [List.mem_cons, List.not_mem_nil, or_false] at hrk
        rcases hrk with z | z | z | z | z | z | z | z | z | z | z
        · exact Or.inl z
        · exact absurd (Or.inl z) n1
        · exact absurd (Or.inr z) n1
        · exact absurd z n3
        · exact absurd z n4
        · exact absurd z n5
        · exact absurd z n6
        · exact absurd z n7
        · exact absurd z n8
        · exact Or.inr (Or.inl z)
        · exact Or.inr (Or.inr z)
      rw [hFZ.1 23 (by decide)]
      unfold bsA
      rw [if_neg g3.1, if_neg g3.2.2.2.2.2.1, if_pos ⟨hro, hJ'⟩, sF_at]
      congr 1
      rw [eit]
      unfold jgR jgr growB
      show _ = (decide (md = 1) && (isJ (srO o r).2.2.1 && decide (Lof (2 * 2 ^ lev) < lvM (srO o r).2.2.1) && !(evV _ (srO o r).2.2.2.1).2.1 && !(evV _ (srO o r).2.2.2.1).2.2 && !(fitB (mkF (srO o r).2.2.1 (nI (2 * 2 ^ lev))) ((evV _ (srO o r).2.2.2.1).1 - _))))
      rw [hJ', Lof_2 hlev.2, show (st0 σ5 md e.2.1).1 19 = aE E (lay (0, 0) E1) e from s19]
      show (decide (md = 1) && _ && _ && decide (lev < (if (srO o r).2.2.1 = 120 then 1 else 2)) && _) = _
      rw [show (if (srO o r).2.2.1 = 120 then 1 else 2) = lvM (srO o r).2.2.1 from rfl]
      by_cases hlt : lev < lvM (srO o r).2.2.1
      · have hl2 : lev ≠ 2 := by have := (len0_J (w := (srO o r).2.1) hJ').2.2; omega
        unfold jcnt jmk
        rw [if_neg hl2, decide_eq_true hlt]
        simp only [Bool.true_and, Bool.and_true, Bool.and_assoc]
      · rw [decide_eq_false hlt]
        simp
    · rw [hg.2.2.2.2, c3 hck]
      have h17 : (bsA (ηE X E (lay (0, 0) E1) e) (loR X (lbS (0, 0) E)) (st0 σ5 md e.2.1) i lev o r).1 17 = 3 := by rw [hb.1 17 (by decide) (by decide)]; exact h3
      have h21 : (bsA (ηE X E (lay (0, 0) E1) e) (loR X (lbS (0, 0) E)) (st0 σ5 md e.2.1) i lev o r).1 21 = σ.1 21 := by
        rw [hb.1 21 (by decide) (by decide)]
        show σ5.1 21 = _
        exact F5.1 21 (by decide)
      unfold gw
      rw [if_pos h17, h21]
end
