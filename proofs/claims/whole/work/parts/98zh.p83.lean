/-! ===== the class's parser: a line; tokens' facts ===== -/
theorem shr_1 : ∀ k, k < 10 → (2 * nI k + (1 : Int32)) >>> ((1 : Int32) &&& 31) = nI k ∧ (2 * nI k + (0 : Int32)) >>> ((1 : Int32) &&& 31) = nI k := by decide +kernel
theorem lexS_5 {X : List Int32} {q : Nat} {a : AT} {r : List AT} (hl : lexS X q = a :: r) (h5 : a.k = 5) : ∃ d, d < 10 ∧ a.v >>> ((1 : Int32) &&& 31) = nI d := by
  have h0 : a.k ≠ 0 := by rw [h5]; decide
  have h1 : a.k ≠ 1 := by rw [h5]; decide
  obtain ⟨t1, t2, t3⟩ := lexS_at hl h0 h1
  generalize a.p = p at *
  unfold tokC at t1
  simp only [] at t1
  split at t1
  · rename_i hd
    cases hn : numC (tw X) p (digTk (tw X) p (pend (tw X) X.length p)) with
    | none => rw [hn] at t1; cases t1
    | some t =>
      rw [hn] at t1
      cases t1
      have h5' : t.1.1 = 5 := h5
      show ∃ d, d < 10 ∧ t.1.2.1 >>> ((1 : Int32) &&& 31) = nI d
      obtain ⟨k, k1, k2, k3⟩ := dg_n hd
      unfold numC at hn
      split at hn
      · cases hn
        refine ⟨k - 48, by omega, ?_⟩
        show (2 * (tw X p - 48) + (if tw X (p + 1) = 102 then 1 else 0)) >>> ((1 : Int32) &&& 31) = _
        rw [k3, show (48 : Int32) = nI 48 from rfl, pk_sub k1]
        have := shr_1 (k - 48) (by omega)
        split
        · exact this.1
        · exact this.2
      · split at hn
        · cases hn
          exfalso
          revert h5'
          show (if _ then (4 : Int32) else 3) = 5 → False
          split <;> decide
        · cases hn
  · exfalso
    split at t1
    · split at t1
      · cases t1
      · cases t1; exact absurd h5 (by show ¬ ((2 : Int32) = 5); decide)
    · split at t1
      · unfold chrC at t1
        split at t1
        · cases t1; exact absurd h5 (by show ¬ ((3 : Int32) = 5); decide)
        · cases t1
      · split at t1
        · cases hs : strS (tw X) X.length (p + 1) with
          | none => rw [hs] at t1; cases t1
          | some t => rw [hs] at t1; cases t1; exact absurd h5 (by show ¬ ((6 : Int32) = 5); decide)
        · unfold sgnC at t1
          simp only [] at t1
          split at t1
          · cases t1; exact absurd h5 (by show ¬ ((0 : Int32) = 5); decide)
          · split at t1
            · rename_i hc
              split at t1
              · cases t1
                change tw X p = 5 at h5
                rw [h5] at hc
                exact absurd hc (by decide)
              · cases t1
            · split at t1
              · rename_i hs
                cases t1
                change tw X p = 5 at h5
                rw [h5] at hs
                exact absurd hs (by decide)
              · cases t1
theorem lev_okK {k : Int32} (h : okK k ∨ k = 1) : levN k < 7 := by
  unfold okK at h
  rcases h with (h | h | h | h | h | h | h | h | h | h | h | h | h | h | h | h | h | h | h | h | h) | h <;> (rw [h]; decide)
theorem TkF_cons {X : List Int32} {q : Nat} {a : AT} {r : List AT} (hl : lexS X q = a :: r) (hr : TkF X r ∨ (r = [] ∧ a.k = 0)) : TkF X (a :: r) := by
  have h1 := lev_okK (lexS_f hl)
  rcases hr with ⟨g1, g2, g3, g4, g5⟩ | ⟨rfl, e0⟩
  · obtain ⟨b, b1, b2⟩ := g1
    refine ⟨⟨b, List.mem_cons_of_mem _ b1, b2⟩, ?_, ?_, ?_, ?_⟩
    · intro z hz k; rcases List.mem_cons.mp hz with rfl | hz
      · exact lexS_5 hl k
      · exact g2 z hz k
    · intro z hz; rcases List.mem_cons.mp hz with rfl | hz
      · exact h1
      · exact g3 z hz
    · intro z hz k; rcases List.mem_cons.mp hz with rfl | hz
      · exact (lexS_2 hl k).1.symm
      · exact g4 z hz k
    · intro z hz k; rcases List.mem_cons.mp hz with rfl | hz
      · exact ⟨(lexS_4 hl k).1, (lexS_4 hl k).2.1⟩
      · exact g5 z hz k
  · refine ⟨⟨a, List.mem_cons_self, e0⟩, ?_, ?_, ?_, ?_⟩
    · intro z hz k; rw [List.mem_singleton.mp hz, e0] at k; exact absurd k (by decide)
    · intro z hz; rw [List.mem_singleton.mp hz]; exact h1
    · intro z hz k; rw [List.mem_singleton.mp hz, e0] at k; exact absurd k (by decide)
    · intro z hz k; rw [List.mem_singleton.mp hz, e0] at k; exact absurd k (by decide)
theorem TkF_lex (X : List Int32) (q : Nat) : TkF X (lexS X q) := by
  induction h : X.length - q using Nat.strongRecOn generalizing q with
  | _ n ih =>
    obtain ⟨a, r, e⟩ := lexS_ne X q
    have eL := e
    rw [lexS] at e
    split at e
    · rename_i hq
      split at e
      · rw [eL, ← e]; exact ih (X.length - (q + 1)) (by omega) (q + 1) rfl
      · split at e
        · rw [eL, ← e]; exact ih _ (by omega) _ rfl
        · split at e
          · rw [eL]
            cases e
            exact TkF_cons eL (Or.inl ⟨⟨endA q, List.mem_cons_self, rfl⟩, fun z hz k => (by rw [List.mem_singleton.mp hz] at k; exact absurd k (show ¬ (0 : Int32) = 5 by decide)), fun z hz => (by rw [List.mem_singleton.mp hz]; show levN 0 < 7; decide), fun z hz k => (by rw [List.mem_singleton.mp hz] at k; exact absurd k (show ¬ (0 : Int32) = 2 by decide)), fun z hz k => (by rw [List.mem_singleton.mp hz] at k; exact absurd k (show ¬ (0 : Int32) = 4 by decide))⟩)
          · rename_i b hb
            obtain ⟨g1, g2, g3, g4⟩ := tokC_e hq hb
            rw [dif_pos g1] at e
            injection e with e1 e2
            rw [eL]
            refine TkF_cons eL (Or.inl ?_)
            rw [← e2]
            exact ih _ (by omega) _ rfl
    · rw [eL]
      cases e
      exact TkF_cons eL (Or.inr ⟨rfl, rfl⟩)
section
variable {N : Nat} {X : List Int32} {ns : List (List Int32)} {Y K V so va op re od : List Int32} {sF sN sP sI sR sT : CS} {E : List Ev} {x y ln sec : Nat}
theorem CSt.c4 (h : CSt X ns Y K V so va op re od E sec sF sN sP sI) (v : Int32) : CSt X ns Y K V so va op re od E sec sF sN (cF sP 4 v) sI := by
  obtain ⟨h1, h2, h3, h4, h5, h6, h7, h8, h9, h10, h11⟩ := h
  exact ⟨h1, h2, h3, h4, h5, by rw [rg_cF (by decide)]; exact h6, h7, h8, h9, h10, h11⟩
theorem rdSt_cI {a : AT} {r : List AT} (h : (rdSt X sec ln a r E).1 = 0) : cI (rdSt X sec ln a r E).2.1 + (rdSt X sec ln a r E).2.2.2.length ≤ cI E + (r.length + 1) := by
  unfold rdSt at h ⊢
  cases ho : opO a.nm with
  | none => rw [ho] at h; exact absurd h (show ¬ (2 : Nat) = 0 by omega)
  | some o =>
    rw [ho] at h
    change fnF (stK X (LbE E) o r) = 0 at h
    show cI (E ++ (evS sec ln a o (stK X (LbE E) o r) (eqK X (LbE E) r)).1) + (stK X (LbE E) o r).2.2.length ≤ _
    have h0 : (stm (ηK X (LbE E)) (loR X (LbE E)) (tkA X (LbE E)) o r).1 = 0 := by
      unfold fnF at h
      by_cases z : (stK X (LbE E) o r).1 = 0
      · exact z
      · rw [if_pos z] at h; exact h
    have hl := stm_len h0
    change (stK X (LbE E) o r).2.1.length + (stK X (LbE E) o r).2.2.length ≤ _ at hl
    rw [cI_app]
    have n5 : ∀ (p : Nat) (its : List AI), nit ((5, p, ln, sec, 0, its) : Ev) = its.length := fun p its => nit_5 rfl
    have n2 : ∀ (p : Nat) (v : Int32), nit ((2, p, ln, sec, v, []) : Ev) = 0 := fun p v => nit_2 rfl
    unfold evS
    split
    · have hs : ∀ c : Prop, [Decidable c] → (List.map nit (if c then [((5, a.p, ln, sec, 0, []) : Ev)] else [])).sum = 0 := by
        intro c _
        split
        · simp only [List.map_cons, List.map_nil, List.sum_cons, List.sum_nil]; rw [n5]; rfl
        · rfl
      simp only [hs]
      omega
    · split
      · simp only [List.map_cons, List.map_nil, List.sum_cons, List.sum_nil]; rw [n5, n2]; simp only [List.length_nil]; omega
      · simp only [List.map_cons, List.map_nil, List.sum_cons, List.sum_nil]
        rw [nit_5 rfl]
        simp only []
        omega
theorem C_line (hN : 70000 < N) (hTb : Tbl ns op re od) (hsec : sec < 2) {q : Nat} {ts : List AT} (hl : lexS X q = ts) (hW : WfE X E) (hB : Bel E q) (hnl : nlc X q + 1 = ln) (hq : q ≤ X.length) (hS : CSt X ns Y K V so va op re od E sec sF sN sP sI) (hT : TPos ns Y sT ts) (hb : cI E + ts.length < 4990) (hk : K.length + ts.length ≤ 60000) :
    RC (tp sF sP sI x y) (C_Par_readLine N (nI ln) sR sF sN sT sP sI) (fun v u c => c = tp u.1 u.2.2.2.1 u.2.2.2.2 x y ∧ LnP X ns Y op re od (K.length + ts.length) (rdLine X sec ln ts E) sN sT v u ∧ ((rdLine X sec ln ts E).1 = 0 → cI (rdLine X sec ln ts E).2.1 + (rdLine X sec ln ts E).2.2.2.length ≤ cI E + ts.length)) := by
  have hK := TkF_lex X q
  rw [hl] at hK
  have eT := T_left hT
  have e15 := rdLab_le X sec ln ts.length ts E
  unfold C_Par_readLine
  refine RC_bnd (RC_cr eT.1 ?_)
  have hw0 := rdLab_wf hsec ts.length ts E q hl hW hB hnl hq
  have hrl : rdLine X sec ln ts E = if (rdLab X sec ln ts.length ts E).1 ≠ 0 then ((rdLab X sec ln ts.length ts E).1, E, sec, []) else (rdLab X sec ln ts.length ts E).2.1.elim (0, (rdLab X sec ln ts.length ts E).2.2.2, sec, (rdLab X sec ln ts.length ts E).2.2.1) (fun a => rdSt X sec ln a (rdLab X sec ln ts.length ts E).2.2.1 (rdLab X sec ln ts.length ts E).2.2.2) := rfl
  show RC (tp sF (cF sP 4 (nI ln)) sI x y) _ _
  refine C_labs hN hTb hsec (sN0 := sN) (sT0 := sT) ts.length N ts.length ts E so va sN sT (cF sP 4 (nI ln)) sI (Nat.le_refl _) (by omega) (Nat.le_refl _) (by omega) hK (hS.c4 (nI ln)) (cF_at _ _ _) hT hb (TQ.rf _) rfl ?_ ?_
  · intro so' va' sN' sT' sP' sI' g1 g2 g3 g4 g5 g6 g7 g8 g9
    obtain ⟨w1, w2, w3⟩ := hw0 g1
    rw [if_neg (fun z => z g1)] at hrl
    generalize rdLab X sec ln ts.length ts E = L at *
    have hk0 := T_kind g6 (j := 0) (by omega)
    change C_Tok_kind 0 sT' = some _ at hk0
    cases hm : L.2.1 with
    | none =>
      obtain ⟨q2, j1, j2, j3, j4, j5, j6⟩ := w3 hm
      have ets : tsL L = L.2.2.1 := by unfold tsL; rw [hm]; rfl
      rw [hm] at hrl
      simp only [Option.elim_none] at hrl
      rw [ets] at g6 g7 g8 g9 hk0
      have ke : kAt L.2.2.1 0 = 0 := (kAt_atE _).mpr j2
      obtain ⟨sT2, t1, t2, t3, t4⟩ := T_skip g6 (j := 1) (by omega)
      change C_Tok_skip 1 sT' = some (0, sT2) at t1
      unfold C_Par_readLine_44 C_Par_readLine_64 C_Par_readLine_81
      refine RC_y rfl (RC_cr hk0 (RC_y ke (RC_y rfl (RC_cr hk0 (RC_y ke (RC_cl t1 (RC_ret ⟨rfl, ?_, ?_⟩)))))))
      · rw [hrl]
        refine ⟨rfl, g2.tr ⟨t3, t4⟩, g3, Or.inr ⟨rfl, ?_, K, V, so', va', g5, by simp only []; omega⟩⟩
        rw [← List.drop_one]
        exact t2
      · rw [hrl]; intro _; exact g7
    | some a =>
      obtain ⟨j1, j2, j3, j4, j5⟩ := w2 a hm
      have ets : tsL L = a :: L.2.2.1 := by unfold tsL; rw [hm]; rfl
      rw [hm] at hrl
      simp only [Option.elim_some] at hrl
      rw [ets] at g6 g7 g8 g9 hk0
      change C_Tok_kind 0 sT' = some a.k at hk0
      simp only [List.length_cons] at g7 g8
      unfold C_Par_readLine_44
      refine RC_y rfl (RC_cr hk0 (RC_n (by rw [j1]; decide) ?_))
      refine RC_then (C_statement (x := x) (y := y) (sR := sR) hN hTb w1 g5 g4 hsec j1 g6 g9.1 g9.2.1 g9.2.2.1 g9.2.2.2.1 (by omega) (by omega)) (fun v u c hu => ?_)
      obtain ⟨rfl, s1, s2, s3⟩ := hu
      have hle := rdSt_le X sec ln a L.2.2.1 L.2.2.2
      rw [← hrl] at s3 hle
      have hci : (rdLine X sec ln ts E).1 = 0 → cI (rdLine X sec ln ts E).2.1 + (rdLine X sec ln ts E).2.2.2.length ≤ cI E + ts.length := by
        intro hz
        have := rdSt_cI (X := X) (sec := sec) (ln := ln) (E := L.2.2.2) (a := a) (r := L.2.2.1) (by rw [← hrl]; exact hz)
        rw [← hrl] at this
        omega
      have hpn : nlc X a.p + 1 = ln := by rw [nlc_line (q := q) j4 (by rw [← j5]; exact lend_ge _ _ _)]; exact hnl
      rcases s3 with ⟨p1, p2, p3⟩ | ⟨p1, p2, p3, ts2, p4, p5⟩ | ⟨p1, p2, p3, K', V', so2, va2, p4, p5⟩
      · have hne : (rdLine X sec ln ts E).1 ≠ 0 := fun z => p1 (by rw [p2, z]; rfl)
        rw [p2]
        exact (C_flt (N := N) (sR := sR) (x := x) (y := y) hne hle (g2.tr s1) (s2.trans g3) p3 (fun v w h1 h2 h3 h4 => ⟨rfl, ⟨h1, h2, h3, Or.inl ⟨hne, h4⟩⟩, hci⟩)).1
      · have hk2 := T_kind p4 (j := 0) (by omega)
        change C_Tok_kind 0 u.2.2.1 = some _ at hk2
        rw [p1]
        obtain ⟨b1, b2, -, b4, b5, b6⟩ := p3
        obtain ⟨sT2, t1, t2, t3, t4⟩ := T_skip p4 (j := 1) (by omega)
        change C_Tok_skip 1 u.2.2.1 = some (0, sT2) at t1
        unfold C_Par_readLine_64 C_Par_readLine_81
        refine RC_y rfl (RC_cr hk2 (RC_n p5 (RC_cl t1 (RC_ret ⟨rfl, ⟨?_, (g2.tr s1).tr ⟨t3, t4⟩, s2.trans g3, Or.inl ⟨?_, b1, b2, ⟨_, t2⟩, b4, b5, b6⟩⟩, hci⟩))))
        · rw [p2]; rfl
        · rw [p2]; omega
      · have hz : (rdSt X sec ln a L.2.2.1 L.2.2.2).1 = 0 := by rw [← hrl]; exact p2
        obtain ⟨i1, i2, q2, i3, i4, i5⟩ := rdSt_wf hsec j2 j1 w1 j3 hpn hz
        rw [← hrl] at i4
        have ke : kAt (rdLine X sec ln ts E).2.2.2 0 = 0 := (kAt_atE _).mpr i4
        have hk2 := T_kind p3 (j := 0) (by omega)
        change C_Tok_kind 0 u.2.2.1 = some _ at hk2
        obtain ⟨sT2, t1, t2, t3, t4⟩ := T_skip p3 (j := 1) (by omega)
        change C_Tok_skip 1 u.2.2.1 = some (0, sT2) at t1
        rw [p1]
        unfold C_Par_readLine_64 C_Par_readLine_81
        refine RC_y rfl (RC_cr hk2 (RC_y ke (RC_cl t1 (RC_ret ⟨rfl, ⟨?_, (g2.tr s1).tr ⟨t3, t4⟩, s2.trans g3, Or.inr ⟨p2, ?_, K', V', so2, va2, p4, by omega⟩⟩, hci⟩))))
        · rw [p2]; rfl
        · rw [← List.drop_one]; exact t2
  · intro hne v u h1 h2 h3 h4
    rw [if_pos hne] at hrl
    rw [hrl]
    exact ⟨rfl, ⟨h1, h2, h3, Or.inl ⟨hne, h4⟩⟩, fun z => absurd z hne⟩
end
