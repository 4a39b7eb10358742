/-! ===== the class's parser: a statement ===== -/
theorem nmT_len : ∀ (n : Nat) (ts : List AT), (nmT n ts).1 = 0 → (nmT n ts).2.1.length + (nmT n ts).2.2.length ≤ ts.length
  | 0, ts, h => absurd h (show ¬ (1 : Nat) = 0 by omega)
  | n + 1, ts, h => by
    rw [nmT] at h ⊢
    cases hc : cmpT ts with
    | none => rw [hc] at h; exact absurd h (show ¬ (1 : Nat) = 0 by omega)
    | some z =>
      obtain ⟨R, rest⟩ := z
      rw [hc] at h
      simp only [] at h ⊢
      have hl := (cmpT_suf hc).1.len
      by_cases hE : atE rest = true
      · rw [if_pos hE]; simp only [List.length_cons, List.length_nil]; omega
      · rw [if_neg hE] at h ⊢
        cases ht : tk1 44 rest with
        | none => rw [ht] at h; exact absurd h (show ¬ (1 : Nat) = 0 by omega)
        | some q =>
          rw [ht] at h
          simp only [] at h ⊢
          have h2 := (tk1_suf (by decide) ht).len
          have := nmT_len n q.2 h
          simp only [List.length_cons]
          omega
theorem stT_len : ∀ (n : Nat) (ts : List AT), (stT n ts).1 = 0 → (stT n ts).2.1.length + (stT n ts).2.2.length ≤ ts.length
  | 0, ts, h => absurd h (show ¬ (1 : Nat) = 0 by omega)
  | n + 1, ts, h => by
    rw [stT] at h ⊢
    cases hc : tk1 6 ts with
    | none => rw [hc] at h; exact absurd h (show ¬ (1 : Nat) = 0 by omega)
    | some z =>
      obtain ⟨a, rest⟩ := z
      rw [hc] at h
      simp only [] at h ⊢
      have hl := (tk1_suf (by decide) hc).len
      by_cases hE : atE rest = true
      · rw [if_pos hE]; simp only [List.length_cons, List.length_nil]; omega
      · rw [if_neg hE] at h ⊢
        cases ht : tk1 44 rest with
        | none => rw [ht] at h; exact absurd h (show ¬ (1 : Nat) = 0 by omega)
        | some q =>
          rw [ht] at h
          simp only [] at h ⊢
          have h2 := (tk1_suf (by decide) ht).len
          have := stT_len n q.2 h
          simp only [List.length_cons]
          omega
theorem liI_2 (b v : Int32) : (liI b v).length ≤ 2 := by
  unfold liI
  split
  · simp
  · split
    · simp
    · split <;> simp
theorem stm_len {η : Int32 → AT → Int32 × Bool} {lo : AT → Bool} {tk : List Int32 → Bool} {o : OD} {ts : List AT} (h : (stm η lo tk o ts).1 = 0) : (stm η lo tk o ts).2.1.length + (stm η lo tk o ts).2.2.length ≤ ts.length + 1 := by
  have hs := (stm_suf h).len
  unfold stm at h hs ⊢
  by_cases c12 : o.1 = 1 ∨ o.1 = 2
  · rw [if_pos c12]; simp
  rw [if_neg c12] at h hs ⊢
  by_cases c3 : o.1 = 3
  · rw [if_pos c3] at hs ⊢; simp only [List.length_nil] at *; omega
  rw [if_neg c3] at h hs ⊢
  by_cases c4 : o.1 = 4
  · rw [if_pos c4] at h ⊢
    have := nmT_len _ _ h
    simp only [List.length_map]
    omega
  rw [if_neg c4] at h hs ⊢
  by_cases c5 : o.1 = 5
  · rw [if_pos c5] at h ⊢
    have := stT_len _ _ h
    simp only [List.length_map]
    omega
  rw [if_neg c5] at h hs ⊢
  by_cases c6 : o.1 = 6
  · rw [if_pos c6] at hs ⊢; simp only [List.length_cons, List.length_nil] at *; omega
  rw [if_neg c6] at h hs ⊢
  by_cases c7 : o.1 = 7
  · rw [if_pos c7] at hs ⊢; simp only [List.length_cons, List.length_nil] at *; omega
  rw [if_neg c7] at h hs ⊢
  by_cases c8 : o.1 = 8
  · rw [if_pos c8] at h ⊢
    have h2 := (ldT_suf h).len
    have := liI_2 (ldT η lo ts).2.1 (ldT η lo ts).2.2.1
    simp only [List.length_map]
    omega
  rw [if_neg c8] at hs ⊢
  unfold sI
  simp only [List.length_cons, List.length_nil] at *
  omega
def StRd (X : List Int32) (ns : List (List Int32)) (Y op re od : List Int32) (n0 : Nat) (R : Nat × List Ev × Nat × List AT) (sN0 sT0 : CS) (v : Int32) (sF sN sT sP sI : CS) : Prop :=
  TQ sT0 sT ∧ nq sN = nq sN0 ∧ ((v ≠ 0 ∧ v = nI R.1 ∧ CBd ns Y op re od sF sN sT sP sI) ∨ (v = 0 ∧ R.1 = 1 ∧ CBd ns Y op re od sF sN sT sP sI ∧ ∃ ts2, TPos ns Y sT ts2 ∧ kAt ts2 0 ≠ 0) ∨ (v = 0 ∧ R.1 = 0 ∧ TPos ns Y sT R.2.2.2 ∧ ∃ K' V' so' va', CSt X ns Y K' V' so' va' op re od R.2.1 R.2.2.1 sF sN sP sI ∧ K'.length + R.2.2.2.length ≤ n0))
section
variable {N : Nat} {X : List Int32} {ns : List (List Int32)} {Y K V so va op re od : List Int32} {sF sN sP sI sR sT : CS} {E : List Ev} {x y ln sec : Nat}
theorem CSt.hd (h : CSt X ns Y K V so va op re od E sec sF sN sP sI) (v : Int32) : CSt X ns Y K V so va op re od E sec sF sN (cF sP 6 v) sI := by
  obtain ⟨h1, h2, h3, h4, h5, h6, h7, h8, h9, h10, h11⟩ := h
  exact ⟨h1, h2, h3, h4, h5, by rw [rg_cF (by decide)]; exact h6, h7, h8, h9, h10, h11⟩
theorem CSt.sc (h : CSt X ns Y K V so va op re od E sec sF sN sP sI) {s : Nat} {t : Int32} (ht : t = b2 (decide (s = 1))) : CSt X ns Y K V so va op re od E s sF sN (cF sP 5 t) sI := by
  obtain ⟨h1, h2, h3, h4, h5, h6, h7, h8, h9, h10, h11⟩ := h
  exact ⟨h1, h2, h3, h4, h5, by rw [rg_cF (by decide)]; exact h6, h7, h8, by rw [cF_at]; exact ht, h10, h11⟩
theorem CSt.bd (h : CSt X ns Y K V so va op re od E sec sF sN sP sI) {ts : List AT} (hT : TPos ns Y sT ts) : CBd ns Y op re od sF sN sT sP sI := by
  obtain ⟨h1, h2, ⟨S, Z, h3⟩, h4, h5, h6, h7, h8, h9, h10, h11⟩ := h
  exact ⟨⟨_, _, _, _, h3⟩, ⟨_, _, h11⟩, ⟨_, hT⟩, ⟨_, h6⟩, h10.1, h5.z⟩
/-- an ordinary statement's post gives the line's -/
theorem StP.r {o : OD} {a : AT} {r : List AT} {B : BR} {v hd : Int32} {u : CS × CS × CS × CS} {sT' : CS} (hS : CSt X ns Y K V so va op re od E sec sF sN sP sI) (hoo : opO a.nm = some o) (h12 : ¬ (o.1 = 1 ∨ o.1 = 2)) (h3 : o.1 ≠ 3) (hB : stK X (LbE E) o r = B) (hq : TQ sT sT') (h : StP ns (nrE X E) Y K V (cI E) ln sec (cF sP 6 hd) sI sT' r.length B v u) : StRd X ns Y op re od (K.length + r.length) (rdSt X sec ln a r E) sN sT v u.1 sN u.2.1 u.2.2.1 u.2.2.2 := by
  have hrd : rdSt X sec ln a r E = (fnF B, E ++ [(5, a.p, ln, sec, 0, B.2.1)], sec, B.2.2) := by
    unfold rdSt
    rw [hoo]
    show (fnF (stK X (LbE E) o r), E ++ (evS sec ln a o (stK X (LbE E) o r) (eqK X (LbE E) r)).1, (evS sec ln a o (stK X (LbE E) o r) (eqK X (LbE E) r)).2, (stK X (LbE E) o r).2.2) = _
    rw [hB]
    unfold evS
    rw [if_neg h12, if_neg h3]
  rw [hrd]
  obtain ⟨p1, p2⟩ := h
  have bd : Bd (cF sP 6 hd) u.1 u.2.2.1 u.2.2.2 → (∃ ts', TPos ns Y u.2.1 ts') → CBd ns Y op re od u.1 sN u.2.1 u.2.2.1 u.2.2.2 := by
    rintro ⟨b1, ⟨n, b2⟩, b3⟩ b4
    obtain ⟨h1, h2, h3, h4, h5, h6, h7, h8, h9, h10, h11⟩ := hS
    exact ⟨b1, ⟨_, _, h11⟩, b4, ⟨_, by rw [b2, rg_cF (by decide), rg_cF (by decide)]; exact h6⟩, by rw [b2]; exact h10.1, b3⟩
  refine ⟨hq.tr p1, rfl, ?_⟩
  rcases p2 with ⟨g1, g2, g3, g4⟩ | ⟨g1, g2, g3, ts2, g4, g5⟩ | ⟨g1, g2, g3, g4⟩
  · exact Or.inl ⟨g1, g2, bd g3 g4⟩
  · exact Or.inr (Or.inl ⟨g1, g2, bd g3 ⟨_, g4⟩, ts2, g4, g5⟩)
  · obtain ⟨K2, V2, hk, hC⟩ := hS.its g4 a.p
    refine Or.inr (Or.inr ⟨g1, g2, g3, K ++ K2, V ++ V2, so, va, hC, ?_⟩)
    have hB0 : B.1 = 0 := by
      unfold fnF at g2
      by_cases z : B.1 = 0
      · exact z
      · rw [if_pos z] at g2; exact g2
    have := (stm_suf (show (stm (ηK X (LbE E)) (loR X (LbE E)) (tkA X (LbE E)) o r).1 = 0 by rw [← hB] at hB0; exact hB0)).len
    change (stK X (LbE E) o r).2.2.length + _ ≤ _ at this
    rw [hB] at this
    rw [List.length_append]
    simp only []
    omega
set_option maxHeartbeats 1000000 in
theorem C_statement (hN : 70000 < N) (hTb : Tbl ns op re od) (hW : WfE X E) (hS : CSt X ns Y K V so va op re od E sec sF sN sP sI) (hln : sP.1 4 = nI ln) (hsec : sec < 2) {a : AT} {r : List AT} (ha : a.k = 2) (hT : TPos ns Y sT (a :: r)) (hE : HasE (a :: r)) (hNr : NrF (a :: r)) (hlv : ∀ a' ∈ a :: r, levN (AT.k a') < 7) (hp2 : ∀ a' ∈ a :: r, a'.k = 2 → nmAt X a'.p = a'.nm) (hk : K.length + r.length ≤ 60000) (hb : cI E + r.length < 4990) :
    RC (tp sF sP sI x y) (C_Par_readStatement N sR sF sN sT sP sI) (fun v u c => c = tp u.1 u.2.2.2.1 u.2.2.2.2 x y ∧ StRd X ns Y op re od (K.length + r.length) (rdSt X sec ln a r E) sN sT v u.1 u.2.1 u.2.2.1 u.2.2.2.1 u.2.2.2.2) := by
  have hS7 := hS.hd (sP.1 1)
  have C := hS7.pcx hN hTb hW
  obtain ⟨h1, h2, ⟨S, Z, hF⟩, hKV, hL, h6, h7, hc, h9, h10, h11⟩ := id hS
  have hFx := fx_K hW h2 h11.1.small.1
  have hns := h11.1.small.1
  have hdot : ∀ a : AT, a.nm = dotB → loR X (LbE E) a = true := fun a ha => by unfold loR; rw [if_pos ha]
  have hk0 := T_kind hT (j := 0) (by omega)
  change C_Tok_kind 0 sT = some _ at hk0
  unfold C_Par_readStatement
  refine RC_cr hk0 (RC_y ha ?_)
  obtain ⟨v, wl, tv, tr, -⟩ := T_value hT (j := 0) (by omega) (a := a) (r := r) rfl
  change C_Tok_value 0 sT = some v at tv
  obtain ⟨i, hi1, hi2, hi3⟩ := tr.nm ha
  have hi3' : v = nI i := hi3
  refine RC_cr tv ?_
  rw [hi3']
  refine RC_cr (C_Row_get_eq h11.1.r2 (nI i)) ?_
  rcases hTb.2 i hi1 with ⟨o1, o2⟩ | ⟨o, j, o1, o2, o3, o4, o5, o6⟩
  · rw [o2]
    rw [hi2] at o1
    refine RC_y (by decide) ?_
    unfold C_Par_readStatement_49
    refine RC_ret ⟨rfl, TQ.rf _, rfl, Or.inl ⟨by decide, ?_, hS.bd hT⟩⟩
    unfold rdSt
    rw [o1]
    rfl
  rw [o3]
  rw [hi2] at o1
  have ej : nI (j + 1) - 1 = nI j := by
    have := pk_sub (a := j + 1) (b := 1) (by omega)
    exact this
  have hj128 : j < 128 := o2
  rw [ej, nI_clamp (by omega)]
  refine RC_n (nI_pos (by omega)) (RC_y ((nI_ltI (by omega) (by decide)).mpr o2) (RC_gd (inB_nI o2 (by decide)) ?_))
  obtain ⟨sT', t1, t2, t3, t4⟩ := T_skip hT (j := 1) (by omega)
  change C_Tok_skip 1 sT = some (0, sT') at t1
  change TPos ns Y sT' r at t2
  refine RC_cl t1 (RC_bnd (RC_gd (decide_eq_true o2) ?_))
  have hq : TQ sT sT' := ⟨t3, t4⟩
  have hsb : SB (cI E) ln sec (cF sP 6 (sP.1 1)) := ⟨hln, h9, by rw [cF_at]; exact hc⟩
  have hc7 : (cF sP 6 (sP.1 1)).1 1 = nI (cI E) := hc
  have hE' : HasE r := hE.tl (by rw [ha]; decide)
  have hNr' : NrF r := fun z h => hNr z (List.mem_cons_of_mem _ h)
  have hlv' : ∀ a' ∈ r, levN (AT.k a') < 7 := fun z h => hlv z (List.mem_cons_of_mem _ h)
  have erd : rdSt X sec ln a r E = (fnF (stK X (LbE E) o r), E ++ (evS sec ln a o (stK X (LbE E) o r) (eqK X (LbE E) r)).1, (evS sec ln a o (stK X (LbE E) o r) (eqK X (LbE E) r)).2, (stK X (LbE E) o r).2.2) := by
    unfold rdSt
    rw [o1]
    rfl
  obtain ⟨-, k2, k3, k4⟩ := opO_ok o1
  rw [o4]
  have eT := T_left t2
  -- the sections
  have sect : ∀ (s : Nat) (t : Int32), (o.1 = 1 ∨ o.1 = 2) → (if o.1 = 2 then 1 else 0) = s → t = b2 (decide (s = 1)) → RC (tp sF (cF sP 6 (sP.1 1)) sI x y) (C_Par_readStatement_153 N t sR sF sN sT' (cF sP 6 (sP.1 1)) sI) (fun v u c => c = tp u.1 u.2.2.2.1 u.2.2.2.2 x y ∧ StRd X ns Y op re od (K.length + r.length) (rdSt X sec ln a r E) sN sT v u.1 u.2.1 u.2.2.1 u.2.2.2.1 u.2.2.2.2) := by
    intro s t h12 hs ht
    unfold C_Par_readStatement_153
    refine RC_gd (by rw [ht]; exact b2_isB _) (RC_bnd (RC_ret ⟨rfl, hq, rfl, ?_⟩))
    have hB : stK X (LbE E) o r = (0, [], r) := by unfold stK stm; rw [if_pos h12]
    rw [erd, hB]
    have hev : evS sec ln a o (0, [], r) (eqK X (LbE E) r) = ((if s = sec then [(5, a.p, ln, sec, 0, [])] else []), s) := by
      unfold evS
      rw [if_pos h12, hs]
    rw [hev]
    by_cases hEr : atE r = true
    · have : fnF (0, [], r) = 0 := by unfold fnF; rw [if_neg (fun z => z rfl), if_pos hEr]
      refine Or.inr (Or.inr ⟨rfl, this, t2, ?_⟩)
      simp only []
      by_cases hss : s = sec
      · rw [if_pos hss]
        obtain ⟨K2, V2, hk2, hC⟩ := hS.its (hd := sP.1 1) (Gd.nil (ln := ln) (sec := sec) hc7 hL hF 0) a.p
        exact ⟨_, _, so, va, hC.sc ht, by rw [List.length_append]; omega⟩
      · rw [if_neg hss, List.append_nil]
        exact ⟨K, V, so, va, hS7.sc ht, Nat.le_refl _⟩
    · have : fnF (0, [], r) = 1 := by unfold fnF; rw [if_neg (fun z => z rfl), if_neg hEr]
      exact Or.inr (Or.inl ⟨rfl, this, (hS7.sc ht).bd t2, r, t2, fun z => hEr ((kAt_atE _).mp z)⟩)
  have s136 : (o.1 = 1 ∨ o.1 = 2) → RC (tp sF (cF sP 6 (sP.1 1)) sI x y) (C_Par_readStatement_136 N j sR sF sN sT' (cF sP 6 (sP.1 1)) sI) (fun v u c => c = tp u.1 u.2.2.2.1 u.2.2.2.2 x y ∧ StRd X ns Y op re od (K.length + r.length) (rdSt X sec ln a r E) sN sT v u.1 u.2.1 u.2.2.1 u.2.2.2.1 u.2.2.2.2) := by
    intro h12
    unfold C_Par_readStatement_136
    refine RC_gd (decide_eq_true o2) ?_
    rw [o4]
    refine RC_if (fun c2 => sect 1 1 h12 (by rw [if_pos c2]) rfl) (fun c2 => sect 0 0 h12 (by rw [if_neg c2]) rfl)
  show RC (tp sF (cF sP 6 (sP.1 1)) sI x y) _ _
  refine RC_if (fun c1 => s136 (Or.inl c1)) (fun c1 => RC_if (fun c2 => s136 (Or.inr c2)) (fun c2 => ?_))
  have h12 : ¬ (o.1 = 1 ∨ o.1 = 2) := fun z => z.elim c1 c2
  refine RC_if (fun c3 => ?_) (fun c3 => ?_)
  · -- constants
    refine RC_then (C_readEquate hN hTb hW hS7 t2 hE' hNr' hlv' hk) (fun v u c hu => ?_)
    obtain ⟨rfl, q1, q2⟩ := hu
    have hB : stK X (LbE E) o r = ((eqK X (LbE E) r).1, [], (eqK X (LbE E) r).2.2.2) := by unfold stK stm; rw [if_neg h12, if_pos c3]
    have hev : evS sec ln a o (stK X (LbE E) o r) (eqK X (LbE E) r) = ([(5, a.p, ln, sec, 0, []), (2, (eqK X (LbE E) r).2.1.p, ln, sec, (eqK X (LbE E) r).2.2.1, [])], sec) := by
      unfold evS
      rw [if_neg h12, if_pos c3]
    rw [hev, hB] at erd
    rw [erd]
    refine RC_ret ⟨rfl, hq.tr q1, ?_, ?_⟩
    · rcases q2 with ⟨g1, g2, g3, g4, g5, g6⟩ | ⟨g1, g2, g3, g4, g5, g6, g7, g8, g9, g10⟩
      · simp only []; rw [g4]
      · exact g9
    rcases q2 with ⟨g1, g2, g3, g4, g5, g6⟩ | ⟨g1, g2, g3, ⟨S', Z', g4⟩, g5, g6, g7, g8, g9, i2, g10, g11, g12, g13⟩
    · left
      have e : fnF ((eqK X (LbE E) r).1, [], (eqK X (LbE E) r).2.2.2) = (eqK X (LbE E) r).1 := by unfold fnF; rw [if_pos g1]
      have hle := eqT_le (ηK X (LbE E)) (loR X (LbE E)) (tkA X (LbE E)) r
      refine ⟨?_, ?_, ?_⟩
      · rw [g2]; exact fun z => g1 ((fl_nI _ hle).mp z)
      · simp only []; rw [e]; exact g2
      · simp only []
        rw [g4, g5]
        obtain ⟨b1, b2', b3, b4, b5, b6⟩ := hS7.bd t2
        exact ⟨g3, b2', g6, b4, b5, b6⟩
    · right
      obtain ⟨K2, V2, hk2, hC⟩ := hS.its (hd := sP.1 1) (Gd.nil (ln := ln) (sec := sec) hc7 hL g4 0) a.p
      have hK0 : K2 = [] := List.length_eq_zero_iff.mp (by omega)
      obtain ⟨m1, m2, m3, m4, m5, m6, m7, m8, m9, m10, m11⟩ := hC
      have hV0 : V2 = [] := List.length_eq_zero_iff.mp (by rw [hK0, List.append_nil, List.length_append] at m4; omega)
      subst hK0
      subst hV0
      rw [List.append_nil, List.append_nil] at m1 m3
      have hE1 : E ++ [(5, a.p, ln, sec, 0, []), (2, (eqK X (LbE E) r).2.1.p, ln, sec, (eqK X (LbE E) r).2.2.1, [])] = (E ++ [(5, a.p, ln, sec, 0, [])]) ++ [((2, (eqK X (LbE E) r).2.1.p, ln, sec, (eqK X (LbE E) r).2.2.1, []) : Ev)] := by simp
      have hCS : CSt X ns Y K V (so.set i2 2) (va.set i2 (eqK X (LbE E) r).2.2.1) op re od (E ++ [(5, a.p, ln, sec, 0, []), (2, (eqK X (LbE E) r).2.1.p, ln, sec, (eqK X (LbE E) r).2.2.1, [])]) sec u.1 u.2.1 u.2.2.2 sI := by
        rw [hE1]
        have hnr : isNr ((2, (eqK X (LbE E) r).2.1.p, ln, sec, (eqK X (LbE E) r).2.2.1, []) : Ev) = false := rfl
        have hpr := PrI_snoc (sI' := sI) m1 [] [] (fun _ _ => rfl) hnr (fun z => by cases z) (fun z => by rcases z with z | z <;> cases z)
        rw [List.append_nil, List.append_nil] at hpr
        refine ⟨hpr, NmE_def m2 h11.1.nodup h11.1.lso h11.1.lva g10 (by rw [g11]; exact hp2 _ (List.mem_cons_of_mem _ g6) g7) (by show 2 < 3; omega) g12 (fun _ => ⟨rfl, rfl⟩) (fun z => absurd rfl z), ⟨_, _, g4⟩, hKV, ?_, ?_, ?_, ?_, ?_, ?_, g13⟩
        · rw [cI_snoc]; exact m5
        · rw [lbI_snoc, if_neg (by show ¬ 2 < 2; omega), List.append_nil, g5, rg_cF (by decide)]; exact m6
        · rw [cnE_snoc, if_pos rfl, g5, cF_at, m7]
          exact nI_add _ _
        · rw [cI_snoc, g5]; exact m8
        · rw [g5]; exact m9
        · rw [nrE_snoc, hnr, if_neg (by decide), g5]; exact m10
      by_cases hEr : atE (eqK X (LbE E) r).2.2.2 = true
      · have : fnF ((eqK X (LbE E) r).1, [], (eqK X (LbE E) r).2.2.2) = 0 := by unfold fnF; rw [if_neg (fun z => z g1), if_pos hEr]
        refine Or.inr ⟨g2, this, g3, _, _, _, _, hCS, ?_⟩
        have := (eqT_suf (show (eqT (ηK X (LbE E)) (loR X (LbE E)) (tkA X (LbE E)) r).1 = 0 from g1)).len
        change (eqK X (LbE E) r).2.2.2.length + 1 ≤ r.length at this
        simp only []
        omega
      · have : fnF ((eqK X (LbE E) r).1, [], (eqK X (LbE E) r).2.2.2) = 1 := by unfold fnF; rw [if_neg (fun z => z g1), if_neg hEr]
        exact Or.inl ⟨g2, this, hCS.bd g3, _, g3, fun z => hEr ((kAt_atE _).mp z)⟩
  refine RC_if (fun c4 => ?_) (fun c4 => ?_)
  · -- numbers
    refine RC_gd (decide_eq_true o2) ?_
    rw [o6 (Or.inl c4)]
    have hw : o.2.2 = nI o.2.2.toNatClampNeg := by rcases k4 c4 with z | z | z <;> rw [z] <;> rfl
    have hB : stK X (LbE E) o r = ((nmT r.length r).1, [] ++ (nmT r.length r).2.1.map (fun R => ((61 : Int32), (0 : Int32), o.2.2.toNatClampNeg, R, ([] : List Int32))), (nmT r.length r).2.2) := by unfold stK stm; rw [if_neg h12, if_neg c3, if_pos c4]; rfl
    unfold C_Par_readNumbers
    refine RC_then (RC_cr eT.1 (by
      rw [hw]
      exact C_nums C hsb hKV (size := o.2.2.toNatClampNeg) (n0 := r.length) (by omega) (by omega) r.length N r.length r [] sF sT' _ sI (Nat.le_refl _) (by omega) (Nat.le_refl _) (by omega) t2 (TQ.rf _) hE' hNr' (by simp) (Gd.nil hc7 hL hF _))) (fun v u c hu => ?_)
    obtain ⟨rfl, hp⟩ := hu
    exact RC_ret ⟨rfl, StP.r hS o1 h12 c3 hB hq hp⟩
  refine RC_if (fun c5 => ?_) (fun c5 => ?_)
  · -- strings
    refine RC_gd (decide_eq_true o2) ?_
    rw [o6 (Or.inr (Or.inl c5))]
    have hw : o.2.2 = nI o.2.2.toNatClampNeg := by rcases k3 c5 with z | z <;> rw [z] <;> rfl
    have hz1 : o.2.2.toNatClampNeg ≤ 1 := by rcases k3 c5 with z | z <;> rw [z] <;> decide
    have hB : stK X (LbE E) o r = ((stT r.length r).1, [] ++ (stT r.length r).2.1.map (fun s => ((4 : Int32), (0 : Int32), s.length + o.2.2.toNatClampNeg, ([] : List XSt), s)), (stT r.length r).2.2) := by unfold stK stm; rw [if_neg h12, if_neg c3, if_neg c4, if_pos c5]; rfl
    unfold C_Par_readStrings
    refine RC_then (RC_cr eT.1 (by
      rw [hw]
      exact C_strs C hsb hz1 (n0 := r.length) (by omega) hF r.length N r.length r [] sT' _ sI (Nat.le_refl _) (by omega) (Nat.le_refl _) (by omega) t2 (TQ.rf _) hE' (by simp) (fun j it h => by rw [List.getElem?_nil] at h; cases h) (cF_self _ hc7).symm hL (fun _ _ => rfl))) (fun v u c hu => ?_)
    obtain ⟨rfl, hp⟩ := hu
    exact RC_ret ⟨rfl, StP.r (u := (sF, u.1, u.2.1, u.2.2)) hS o1 h12 c3 hB hq hp⟩
  refine RC_if (fun c6 => ?_) (fun c6 => ?_)
  · have hB : stK X (LbE E) o r = ((f1T (ηK X (LbE E)) (loR X (LbE E)) 0 32768 r).1, [(2, 0, (f1T (ηK X (LbE E)) (loR X (LbE E)) 0 32768 r).2.1.toNatClampNeg, [], [])], (f1T (ηK X (LbE E)) (loR X (LbE E)) 0 32768 r).2.2) := by unfold stK stm; rw [if_neg h12, if_neg c3, if_neg c4, if_neg c5, if_pos c6]
    refine RC_then (C_readSpace C hsb hFx hdot hc7 hL (by omega) hKV hF t2 hE' hNr' hlv' hk r.length) (fun v u c hu => ?_)
    obtain ⟨rfl, hp⟩ := hu
    exact RC_ret ⟨rfl, StP.r hS o1 h12 c3 hB hq hp⟩
  refine RC_if (fun c7 => ?_) (fun c7 => ?_)
  · have hB : stK X (LbE E) o r = ((f1T (ηK X (LbE E)) (loR X (LbE E)) 0 10 r).1, [(3, (f1T (ηK X (LbE E)) (loR X (LbE E)) 0 10 r).2.1, 0, [], [])], (f1T (ηK X (LbE E)) (loR X (LbE E)) 0 10 r).2.2) := by unfold stK stm; rw [if_neg h12, if_neg c3, if_neg c4, if_neg c5, if_neg c6, if_pos c7]
    refine RC_then (C_readAlign C hsb hFx hdot hc7 hL (by omega) hKV hF t2 hE' hNr' hlv' hk r.length) (fun v u c hu => ?_)
    obtain ⟨rfl, hp⟩ := hu
    exact RC_ret ⟨rfl, StP.r hS o1 h12 c3 hB hq hp⟩
  refine RC_if (fun c8 => ?_) (fun c8 => ?_)
  · have hB : stK X (LbE E) o r = ((ldT (ηK X (LbE E)) (loR X (LbE E)) r).1, (liI (ldT (ηK X (LbE E)) (loR X (LbE E)) r).2.1 (ldT (ηK X (LbE E)) (loR X (LbE E)) r).2.2.1).map (fun x => (0, x.1, x.2, [], [])), (ldT (ηK X (LbE E)) (loR X (LbE E)) r).2.2.2) := by unfold stK stm; rw [if_neg h12, if_neg c3, if_neg c4, if_neg c5, if_neg c6, if_neg c7, if_pos c8]
    refine RC_then (C_readLoad C hsb hFx hdot hc7 hL (by omega) hKV hF t2 hE' hNr' hlv' hk r.length) (fun v u c hu => ?_)
    obtain ⟨rfl, hp⟩ := hu
    exact RC_ret ⟨rfl, StP.r hS o1 h12 c3 hB hq hp⟩
  have hB0 : stK X (LbE E) o r = ((srO o r).1, siS (srO o r), (srO o r).2.2.2.2) := by unfold stK stm; rw [if_neg h12, if_neg c3, if_neg c4, if_neg c5, if_neg c6, if_neg c7, if_neg c8]
  have shape : ∀ (k1 : Nat) (w : Int32), k1 < 188 → srO o r = shp (strB k1) r w 0 [] → ∀ (F : Int32 → CS → CS → CS → CS → CS → Option ((Int32 × (CS × CS × CS × CS × CS)) × (Nat × Nat))), (∀ v sF sN sT sP sI, F v sF sN sT sP sI = some ((v, (sF, sN, sT, sP, sI)), (0, 0))) → RC (tp sF (cF sP 6 (sP.1 1)) sI x y) (ct (C_Par_readShape N k1 w sR sF sN sT' (cF sP 6 (sP.1 1)) sI) (fun v u => F v u.1 sN u.2.1 u.2.2.1 u.2.2.2)) (fun v u c => c = tp u.1 u.2.2.2.1 u.2.2.2.2 x y ∧ StRd X ns Y op re od (K.length + r.length) (rdSt X sec ln a r E) sN sT v u.1 u.2.1 u.2.2.1 u.2.2.2.1 u.2.2.2.2) := by
    intro k1 w hk1 hsr F hFf
    refine RC_then (C_readShape C hsb hc7 hL (by omega) hKV hk1 hF t2 hE' hNr' hk) (fun v u c hu => ?_)
    obtain ⟨rfl, hp⟩ := hu
    rw [hFf]
    rw [← hsr] at hp
    exact RC_ret ⟨rfl, StP.r hS o1 h12 c3 hB0 hq (hp.st (by rw [hsr]; exact shp_le _ _ _ _ _))⟩
  refine RC_if (fun c9 => ?_) (fun c9 => ?_)
  · refine RC_cr (C_isRegister (sR := sR) (sF := sF) (sI := sI) C t2).1 ?_
    by_cases hr : isReg r = true
    · refine RC_n (by rw [hr]; decide) (RC_gd (decide_eq_true o2) ?_)
      rw [o6 (Or.inr (Or.inr (Or.inl c9)))]
      exact shape 15 _ (by omega) (by unfold srO; rw [if_pos c9, if_pos hr]; rfl) (fun v sF sN sT sP sI => C_Par_readStatement_230 N v sR sF sN sT sP sI) (fun _ _ _ _ _ _ => rfl)
    · refine RC_y (by rw [show isReg r = false by simpa using hr]; rfl) (RC_gd (decide_eq_true o2) ?_)
      rw [o6 (Or.inr (Or.inr (Or.inl c9)))]
      exact shape 17 _ (by omega) (by unfold srO; rw [if_pos c9, if_neg hr]; rfl) (fun v sF sN sT sP sI => C_Par_readStatement_230 N v sR sF sN sT sP sI) (fun _ _ _ _ _ _ => rfl)
  refine RC_if (fun c10 => ?_) (fun c10 => ?_)
  · have hk1 := T_kind t2 (j := 1) (by omega)
    change C_Tok_kind 1 sT' = some _ at hk1
    refine RC_cr hk1 ?_
    have etl : kAt r 1 = kAt r.tail 0 := by cases r <;> rfl
    rw [etl]
    by_cases hr : atE r.tail = true
    · refine RC_y ((kAt_atE _).mpr hr) (RC_gd (decide_eq_true o2) ?_)
      rw [o6 (Or.inr (Or.inr (Or.inr c10)))]
      exact shape 18 _ (by omega) (by unfold srO; rw [if_neg c9, if_pos c10, if_pos hr]; rfl) (fun v sF sN sT sP sI => C_Par_readStatement_269 N v sR sF sN sT sP sI) (fun _ _ _ _ _ _ => rfl)
    · refine RC_n (fun z => hr ((kAt_atE _).mp z)) (RC_gd (decide_eq_true o2) ?_)
      rw [o6 (Or.inr (Or.inr (Or.inr c10)))]
      exact shape 19 _ (by omega) (by unfold srO; rw [if_neg c9, if_pos c10, if_neg hr]; rfl) (fun v sF sN sT sP sI => C_Par_readStatement_269 N v sR sF sN sT sP sI) (fun _ _ _ _ _ _ => rfl)
  have hr0 : o.1 = 0 := by
    have : o.1 ∈ ([0, 1, 2, 3, 4, 5, 6, 7, 8, 9, 10] : List Int32) := by unfold roleOk at k2; exact of_decide_eq_true k2
    simp only [List.mem_cons, List.not_mem_nil, or_false] at this
    rcases this with z | z | z | z | z | z | z | z | z | z | z
    · exact z
    · exact absurd z c1
    · exact absurd z c2
    · exact absurd z c3
    · exact absurd z c4
    · exact absurd z c5
    · exact absurd z c6
    · exact absurd z c7
    · exact absurd z c8
    · exact absurd z c9
    · exact absurd z c10
  obtain ⟨w1, w2, w3⟩ := o5 hr0
  refine RC_gd (decide_eq_true o2) (RC_gd (decide_eq_true o2) (RC_cr (C_Row_get_eq h11.1.r4 (nI i)) ?_))
  rw [w3]
  exact shape (ex_shape.getD j 0) _ w1 (by unfold srO; rw [if_neg c9, if_neg c10, w2]) (fun v sF sN sT sP sI => some ((v, (sF, sN, sT, sP, sI)), (0, 0))) (fun _ _ _ _ _ _ => rfl)
end
