/-! ===== the class's parser: fixed numbers, shapes ===== -/
theorem FR4.len {sF : CS} {K V S Z : List Int32} (h : FR4 sF K V S Z) : sF.1 100 = nI K.length ∧ K.length ≤ 140000 ∧ V.length ≤ 140000 := ⟨h.1.cnt, by have := h.1.cap; have := h.1.big; omega, by have := h.2.1.cap; have := h.2.1.big; omega⟩
/-- which fixed numbers both sides see -/
def FixA (ns : List (List Int32)) (so va : List Int32) (lo : AT → Bool) (η : Int32 → AT → Int32 × Bool) : Prop := (∀ a, η 3 a = (a.v, false)) ∧ ∀ (a : AT) (i : Nat), i < ns.length → ns.getD i [] = a.nm → lo a = false → getR so (nI i) = 2 ∧ η 2 a = (getR va (nI i), false)
theorem fix_ag {ns : List (List Int32)} {nr : Nat → Nat} {so va : List Int32} {lo : AT → Bool} {η : Int32 → AT → Int32 × Bool} {adr nxw : Int32 → Int32} {hd : Int32} (h : FixA ns so va lo η) {R : List XSt} (hR : R.any (lz lo) = false) (hdot : ∀ a : AT, a.nm = dotB → lo a = true) (hw : PWf R) : AgS ns nr (ηA so va adr nxw hd) η R := by
  intro s hs v hst hop
  have hlz : lz lo s = false := by have := List.any_eq_false.mp hR s hs; simpa using this
  unfold isOp at hop
  simp only [decide_eq_true_eq] at hop
  obtain ⟨k, a⟩ := s
  change (k = 3 ∨ k = 2 ∨ k = 7 ∨ k = 8 ∨ k = 9) at hop
  have e : ∀ k', ηA so va adr nxw hd k' (vA v) = εC so va adr nxw hd k' v := fun _ => rfl
  rw [e]
  rcases hop with rfl | rfl | rfl | rfl | rfl
  · have hv : v = a.v := hst.2.1 rfl
    show (εC so va adr nxw hd 3 v).2 = (η 3 a).2 ∧ (_ → (εC so va adr nxw hd 3 v).1 = (η 3 a).1)
    rw [h.1 a, hv]
    exact ⟨rfl, fun _ => rfl⟩
  · obtain ⟨i, hi1, hi2, hi3⟩ := hst.2.2.1 rfl
    have hlo : lo a = false := hlz
    obtain ⟨g1, g2⟩ := h.2 a i hi1 hi2 hlo
    show (εC so va adr nxw hd 2 v).2 = (η 2 a).2 ∧ (_ → (εC so va adr nxw hd 2 v).1 = (η 2 a).1)
    have ee : εC so va adr nxw hd 2 v = (getR va (nI i), false) := by
      rw [show v = nI i from hi3]
      show (if getR so (nI i) = 1 then _ else (getR va (nI i), decide (getR so (nI i) ≠ 2))) = _
      rw [g1, if_neg (by decide)]
      rfl
    rw [ee, g2]
    exact ⟨rfl, fun _ => rfl⟩
  · exfalso
    have hlo : lo a = false := hlz
    rw [hdot a (hw _ hs rfl)] at hlo
    cases hlo
  · exact absurd (show lz lo (8, a) = true from rfl) (by rw [hlz]; decide)
  · exact absurd (show lz lo (9, a) = true from rfl) (by rw [hlz]; decide)
theorem evs_m {η : Int32 → AT → Int32 × Bool} {V : EvS} {s : XSt} (hV : V.2.1 = false) (h : isOp s.1 = true → (η s.1 s.2).2 = false) : (evs η V s).2.1 = false := by
  unfold evs
  by_cases ho : isOp s.1 = true
  · rw [if_pos ho]
    show (V.2.1 || (η s.1 s.2).2) = false
    rw [hV, h ho]
    rfl
  · rw [if_neg ho]
    obtain ⟨l, r⟩ := V
    split
    · cases l <;> exact hV
    · match l with
      | [] => exact hV
      | [_] => exact hV
      | _ :: _ :: _ => exact hV
theorem fix_m {ns : List (List Int32)} {nr : Nat → Nat} {so va : List Int32} {lo : AT → Bool} {η : Int32 → AT → Int32 × Bool} (h : FixA ns so va lo η) (hdot : ∀ a : AT, a.nm = dotB → lo a = true) {KK VV : List Int32} {R : List XSt} (hS : StpL ns nr KK VV R) (hR : R.any (lz lo) = false) (hw : PWf R) : (evV η R).2.1 = false := by
  have key : ∀ (KK VV : List Int32) (R : List XSt) (U : EvS), StpL ns nr KK VV R → (∀ s ∈ R, lz lo s = false) → (∀ s ∈ R, s.1 = 7 → s.2.nm = dotB) → U.2.1 = false → (R.foldl (evs η) U).2.1 = false := by
    intro KK
    induction KK with
    | nil =>
      intro VV R U hS _ _ hU
      match VV, R, hS with
      | [], [], _ => exact hU
    | cons k KK ih =>
      intro VV R U hS hl hw hU
      match VV, R, hS with
      | v :: VV, s :: R, hS =>
        refine ih VV R _ hS.2 (fun t ht => hl t (List.mem_cons_of_mem _ ht)) (fun t ht => hw t (List.mem_cons_of_mem _ ht)) (evs_m hU (fun hop => ?_))
        have hlz := hl s List.mem_cons_self
        have hw1 := hw s List.mem_cons_self
        have hst := hS.1
        unfold isOp at hop
        simp only [decide_eq_true_eq] at hop
        obtain ⟨k', a⟩ := s
        change (k' = 3 ∨ k' = 2 ∨ k' = 7 ∨ k' = 8 ∨ k' = 9) at hop
        rcases hop with rfl | rfl | rfl | rfl | rfl
        · show (η 3 a).2 = false; rw [h.1 a]
        · obtain ⟨i, hi1, hi2, hi3⟩ := hst.2.2.1 rfl
          show (η 2 a).2 = false
          rw [(h.2 a i hi1 hi2 hlz).2]
        · have hlo : lo a = false := hlz
          rw [hdot a (hw1 rfl)] at hlo
          cases hlo
        · exact absurd (show lz lo (8, a) = true from rfl) (by rw [hlz]; decide)
        · exact absurd (show lz lo (9, a) = true from rfl) (by rw [hlz]; decide)
  exact key KK VV R ([], false, false) hS (fun s hs => by have := List.any_eq_false.mp hR s hs; simpa using this) hw rfl
theorem cmpA_Rlen : ∀ (n : Nat) (ts : List AT) (w : Bool) (o : Nat) (S : List Int32) (R : List XSt) (S' : List Int32) (R' : List XSt) (o' : Nat) (rest : List AT), (∀ s ∈ S, okS s) → cmpA n ts w o S R = some (S', R', o', rest) → S'.length + R'.length + rest.length ≤ S.length + R.length + ts.length := by
  intro n
  induction n with
  | zero => intro ts w o S R S' R' o' rest _ h; cases h
  | succ n ih =>
    intro ts w o S R S' R' o' rest hok h
    cases ts with
    | nil => cases w <;> cases h
    | cons a r =>
      have push : ∀ (t : Int32), okS t → ∀ s ∈ (t :: S), okS s := fun t ht s hs => by
        rcases List.mem_cons.mp hs with rfl | hs
        · exact ht
        · exact hok s hs
      simp only [List.length_cons]
      cases w with
      | true =>
        rw [cmpA] at h
        have op : ∀ (k : Int32), cmpA n r false o S (R ++ [(k, a)]) = some (S', R', o', rest) → S'.length + R'.length + rest.length ≤ S.length + R.length + (r.length + 1) := fun k hk => by
          have := ih r false o S _ S' R' o' rest hok hk
          simp only [List.length_append, List.length_cons, List.length_nil] at this
          omega
        by_cases c37 : a.k = 37
        · rw [if_pos c37] at h
          match r, h with
          | [], h => cases h
          | [b], h => cases h
          | b :: c :: r3, h =>
            have h' : (if b.k = 2 ∧ (b.nm = hiB ∨ b.nm = loB) ∧ c.k = 40 then cmpA n r3 true (o + 1) (40 :: (if b.nm = hiB then 12 else 13) :: S) R else none) = some (S', R', o', rest) := h
            split at h'
            · have := ih r3 true (o + 1) _ R S' R' o' rest (fun s hs => by
                rcases List.mem_cons.mp hs with rfl | hs
                · exact Or.inl rfl
                · rcases List.mem_cons.mp hs with rfl | hs
                  · split <;> (unfold okS; decide)
                  · exact hok s hs) h'
              simp only [List.length_cons] at this ⊢
              omega
            · cases h'
        rw [if_neg c37] at h
        by_cases c34 : a.k = 3 ∨ a.k = 4
        · rw [if_pos c34] at h; exact op 3 h
        rw [if_neg c34] at h
        by_cases c2 : a.k = 2
        · rw [if_pos c2] at h; exact op _ h
        rw [if_neg c2] at h
        by_cases c5 : a.k = 5
        · rw [if_pos c5] at h; exact op _ h
        rw [if_neg c5] at h
        have pu : ∀ (t : Int32) (o2 : Nat), okS t → cmpA n r true o2 (t :: S) R = some (S', R', o', rest) → S'.length + R'.length + rest.length ≤ S.length + R.length + (r.length + 1) := fun t o2 ht hk => by
          have := ih r true o2 (t :: S) R S' R' o' rest (push t ht) hk
          simp only [List.length_cons] at this
          omega
        by_cases c45 : a.k = 45
        · rw [if_pos c45] at h; exact pu 10 o (by unfold okS; decide) h
        rw [if_neg c45] at h
        by_cases c126 : a.k = 126
        · rw [if_pos c126] at h; exact pu 11 o (by unfold okS; decide) h
        rw [if_neg c126] at h
        by_cases c40' : a.k = 40
        · rw [if_pos c40'] at h; exact pu 40 (o + 1) (Or.inl rfl) h
        · rw [if_neg c40'] at h; cases h
      | false =>
        rw [cmpA] at h
        by_cases c41 : a.k = 41 ∧ 0 < o
        · rw [if_pos c41] at h
          obtain ⟨ok1, ok2⟩ := stl_ok (l := 1) S R hok
          have := ih r false (o - 1) _ _ S' R' o' rest (fun s hs => ok1 s (List.mem_of_mem_tail hs)) h
          have ht := List.length_tail (l := (stl 1 S R).1)
          omega
        rw [if_neg c41] at h
        by_cases hl : 0 < levN a.k
        · rw [if_pos hl] at h
          obtain ⟨ok1, ok2⟩ := stl_ok (l := levN a.k) S R hok
          have := ih r true o _ _ S' R' o' rest (fun s hs => by
            rcases List.mem_cons.mp hs with rfl | hs
            · exact lev_ok hl
            · exact ok1 s hs) h
          simp only [List.length_cons] at this
          omega
        · rw [if_neg hl] at h
          cases h
          simp only [List.length_cons]
          omega
theorem cmpT_Rlen {ts : List AT} {R : List XSt} {rest : List AT} (h : cmpT ts = some (R, rest)) : R.length + rest.length ≤ ts.length := by
  unfold cmpT at h
  cases hc : cmpA ts.length ts true 0 [] [] with
  | none => rw [hc] at h; cases h
  | some z =>
    obtain ⟨S1, R1, o1, r1⟩ := z
    rw [hc] at h
    have h' : (if 0 < o1 then none else some ((stl 1 S1 R1).2, r1)) = some (R, rest) := h
    split at h'
    · cases h'
    · cases h'
      have d1 := cmpA_Rlen _ ts true 0 [] [] S1 R1 o1 rest (fun s hs => by cases hs) hc
      have d2 := (cmpA_okX _ ts true 0 [] [] S1 R1 o1 rest (fun s hs => by cases hs) (fun s hs => by cases hs) hc).2
      have d3 := (stl_ok (l := 1) S1 R1 d2).2
      simp only [List.length_nil] at d1
      omega
section
variable {N : Nat} {ns : List (List Int32)} {nr : Nat → Nat} {Y so va op re od : List Int32} {sN sP sI sR : CS} {lo : AT → Bool} {η : Int32 → AT → Int32 × Bool} {x y : Nat}
/-- evaluate() of a segment of the rows -/
theorem C_evaluate (hN : 70000 < N) (hNL : NamL sN ns [] so va op re od) {adr nxw : Int32 → Int32} (hA : ∀ z, C_Prg_addressOf z sP sI = some (adr z)) (hW : ∀ z, ∃ r, C_Prg_find z sP sI = some r ∧ r < sI.2.2 0 + 1 ∧ sI.2.1 r 3 = nxw z) (h10 : sP.2.2 20 = 10) {A KK B A' VV B' S Z : List Int32} {hd : Int32} {R : List XSt} {sF sT : CS} (hAA : A.length = A'.length) (hlen : A.length + KK.length ≤ 60000) (hS : StpL ns nr KK VV R) (hdp : dpt R = some 1) (hok : okX R) (hF : FR4 sF (A ++ KK ++ B) (A' ++ VV ++ B') S Z) :
    RC (fp sF x y) (C_Frm_evaluate N (nI A.length) (nI (A.length + KK.length)) hd sF sN sT sP sI) (fun r sF' c => c = fp sF' x y ∧ (∃ Z', FR4 sF' (A ++ KK ++ B) (A' ++ VV ++ B') S Z') ∧ sF'.1 1 = (evV (ηA so va adr nxw hd) (emb KK VV)).1 ∧ r = nI (mdF (evV (ηA so va adr nxw hd) (emb KK VV)).2.1 (evV (ηA so va adr nxw hd) (emb KK VV)).2.2) ∧ sF'.1 0 = sF.1 0) := by
  obtain ⟨f0, f1, f2, f3⟩ := hF
  have hKV : KK.length = VV.length := by have := StpL_len hS; omega
  unfold C_Frm_evaluate
  refine RC_Fcut (n := 0) (by omega) f3 (by omega) (fun sF1 c1 c2 c3 => RC_bnd (RC_bnd ?_))
  rw [List.take_zero] at c1
  rw [← fp_cF sF1 4 0, ← fp_cF (cF sF1 4 0) 5 0]
  have key := C_eval (N := N) (sN := sN) (sT := sT) (sP := sP) (sI := sI) (x := x) (y := y) (hd := hd) hNL hA hW h10 (A := A) (K := KK) (B := B) (A' := A') (V := VV) (B' := B') (S := S) hKV hAA hlen (by unfold dpt; rw [dpt_emb _ hS]; exact hdp) (okX_emb hS hok) N 0 (cF (cF sF1 4 0) 5 0) [] false false (by omega) (by omega) ⟨?_, ?_, ?_, ?_⟩ rfl rfl (by simp) rfl rfl
  · refine RC_imp key (fun r sF' c h => ⟨h.1, h.2.1, h.2.2.1, h.2.2.2.1, h.2.2.2.2.trans (c3 0 (by omega))⟩)
  · rw [rg_cF (by decide), rg_cF (by decide), c2 0 (by decide)]; exact f0
  · rw [rg_cF (by decide), rg_cF (by decide), c2 1 (by decide)]; exact f1
  · rw [rg_cF (by decide), rg_cF (by decide), c2 2 (by decide)]; exact f2
  · rw [rg_cF (by decide), rg_cF (by decide)]; exact c1
theorem fl_nI (k : Nat) (h : k ≤ 15) : (nI k = 0) ↔ k = 0 := by
  rw [show (0 : Int32) = nI 0 from rfl, nI_eq (by omega) (by omega)]
/-- a fixed number -/
theorem C_readFixed (C : PCx N ns so va op re od nr lo sN sP) (hFx : FixA ns so va lo η) (hdot : ∀ a : AT, a.nm = dotB → lo a = true) {cnt : Nat} (hc : sP.1 1 = nI cnt) (hL : LOk sI cnt) {K V S Z : List Int32} {sF sT : CS} {ts : List AT} (hKV : K.length = V.length) (hE : HasE ts) (hNr : NrF ts) (hlv : ∀ a ∈ ts, levN (AT.k a) < 7) (hT : TPos ns Y sT ts) (hF : FR4 sF K V S Z) (hk : K.length + ts.length ≤ 60000) (low high : Int32) :
    RC (fp sF x y) (C_Par_readFixed N low high sR sF sN sT sP sI) (fun v u c => c = fp u.1 x y ∧ TQ sT u.2 ∧ v = nI (f1T η lo low high ts).1 ∧ FVal u.1 ∧ (∃ ts', TPos ns Y u.2 ts') ∧ ((f1T η lo low high ts).1 = 0 → u.1.1 1 = (f1T η lo low high ts).2.1 ∧ TPos ns Y u.2 (f1T η lo low high ts).2.2 ∧ ∃ S' Z', FR4 u.1 K V S' Z')) := by
  obtain ⟨c1, c2, c3, c4, c5⟩ := id C
  unfold C_Par_readFixed C_Frm_end
  refine RC_cr rfl ?_
  have hcm := C_compile (x := x) (y := y) (Z := Z) (S0 := S) (sI := sI) c1 c2 c3 c4 hE hNr hT hF hk (by omega)
  refine RC_then hcm (fun v u c hu => ?_)
  obtain ⟨rfl, hcm2⟩ := hu
  rw [hF.len.1]
  unfold f1T
  cases hct : cmpT ts with
  | none =>
    rw [hct] at hcm2
    obtain ⟨rfl, b2', b3, b4⟩ := hcm2
    exact RC_y rfl (RC_ret ⟨rfl, b3, rfl, b2', b4, fun z => absurd (show (1 : Nat) = 0 from z) (by omega)⟩)
  | some z =>
    obtain ⟨R, rest⟩ := z
    rw [hct] at hcm2
    obtain ⟨rfl, g2, g3, g4, K', V', S', g5, g6⟩ := hcm2
    refine RC_n (by decide) ?_
    simp only []
    by_cases hany : R.any (lz lo) = true
    · have hf5 : fxF η lo low high R = 5 := by unfold fxF; rw [if_pos hany]
      rw [hf5, if_pos (show (5 : Nat) ≠ 0 by omega)]
      refine RC_y (by rw [g4, hany]; rfl) (RC_ret ⟨rfl, g3, rfl, ⟨_, _, _, _, g5⟩, ⟨_, g2⟩, fun z => absurd (show (5 : Nat) = 0 from z) (by omega)⟩)
    · have hanyf : R.any (lz lo) = false := by simpa using hany
      refine RC_n (by rw [g4, hanyf]; decide) (RC_cr rfl ?_)
      have hsl := StpL_len g6
      have hsuf := (cmpT_suf hct).1
      have hslen := hsuf.len
      have hRl : R.length ≤ ts.length := by
        have := cmpT_Rlen hct
        omega
      have e100 : u.1.1 100 = nI (K.length + K'.length) := by rw [g5.len.1, List.length_append]
      rw [e100]
      have hadr := C_addr hc hL
      have hfnd : ∀ z, ∃ r, C_Prg_find z sP sI = some r ∧ r < sI.2.2 0 + 1 ∧ sI.2.1 r 3 = sI.2.1 (fnI cnt z) 3 := fun z => ⟨_, (C_find hc hL z).1, (C_find hc hL z).2, rfl⟩
      have hev := C_evaluate (N := N) (x := x) (y := y) (sT := u.2) (hd := sP.1 6) (adr := adrC sP sI cnt) (nxw := fun z => sI.2.1 (fnI cnt z) 3) c1 c2.1 hadr hfnd c3.1 (A := K) (KK := K') (B := []) (A' := V) (VV := V') (B' := []) (S := S') (Z := Z) (R := R) (sF := u.1) hKV (by omega) g6 (cmpT_dep hlv hct) (cmpT_okX hct) (by rw [List.append_nil, List.append_nil]; exact g5)
      refine RC_then hev (fun r2 sF2 c2' hu2 => ?_)
      obtain ⟨rfl, ⟨Z2, hF2⟩, h1, h2, h3⟩ := hu2
      rw [List.append_nil, List.append_nil] at hF2
      have hag := evV_agree g6 (fix_ag (adr := adrC sP sI cnt) (nxw := fun z => sI.2.1 (fnI cnt z) 3) (hd := sP.1 6) (nr := nr) hFx hanyf hdot (cmpT_wf hct))
      have hm0 : (evV η R).2.1 = false := fix_m hFx hdot g6 hanyf (cmpT_wf hct)
      have hvv := hag.2.1 hm0
      rw [hvv] at h1 h2
      -- the steps are dropped
      unfold C_Frm_dropFrom
      obtain ⟨q0, q1, q2, q3⟩ := hF2
      obtain ⟨u1, e1, e2, e3⟩ := C_Row_cut_eq q0 K.length (by omega)
      rw [e1]
      simp only [cl, Option.bind_some, bnd]
      have q1' : RowL (rg (rs sF2 0 u1) 1) (V ++ V') := by rw [rg_rs (by decide)]; exact q1
      obtain ⟨u2, e4, e5, e6⟩ := C_Row_cut_eq q1' K.length (by omega)
      rw [e4]
      simp only [Option.bind_some]
      have hc1 := capF_rs (sF := sF2) (u := u1) (r := 0) (by omega)
      have hc2 := capF_rs (sF := rs sF2 0 u1) (u := u2) (r := 1) (by omega)
      rw [show u1.2.2 0 = (rg sF2 0).2.2 0 by rw [e3]] at hc1
      rw [show u2.2.2 0 = (rg (rs sF2 0 u1) 1).2.2 0 by rw [e6]] at hc2
      have ecap : fp sF2 x y = fp (rs (rs sF2 0 u1) 1 u2) x y := Prod.ext (by show 2 * capF sF2 + x = 2 * capF _ + x; omega) (by show capF sF2 + y = capF _ + y; omega)
      rw [ecap]
      have hF3 : FR4 (rs (rs sF2 0 u1) 1 u2) K V S' Z2 := by
        refine ⟨?_, ?_, ?_, ?_⟩
        · rw [rg_rs (by decide)]
          have := RowL_rs (σ := sF2) (r := 0) e2
          rw [List.take_append_of_le_length (by omega), List.take_of_length_le (by omega)] at this
          exact this
        · have := RowL_rs (σ := rs sF2 0 u1) (r := 1) e5
          rw [List.take_append_of_le_length (by omega), List.take_of_length_le (by omega)] at this
          exact this
        · rw [rg_rs (by decide), rg_rs (by decide)]; exact q2
        · rw [rg_rs (by decide), rg_rs (by decide)]; exact q3
      have n1 : (rs (rs sF2 0 u1) 1 u2).1 1 = (evV η R).1 := by rw [rs_num (by omega), rs_num (by omega)]; exact h1
      generalize rs (rs sF2 0 u1) 1 u2 = sF3 at *
      unfold C_Par_readFixed_91 C_Par_readFixed_94
      have hmd : mdF (evV η R).2.1 (evV η R).2.2 = if (evV η R).2.2 = true then 9 else 0 := by
        unfold mdF
        rw [hm0, if_neg (by decide)]
      by_cases hdv : (evV η R).2.2 = true
      · have hf9 : fxF η lo low high R = 9 := by unfold fxF; rw [if_neg hany, if_pos hdv]
        rw [hf9, if_pos (show (9 : Nat) ≠ 0 by omega)]
        rw [hmd, if_pos hdv] at h2
        refine RC_n (by rw [h2]; decide) (RC_ret ⟨rfl, g3, h2, ⟨_, _, _, _, hF3⟩, ⟨_, g2⟩, fun z => absurd (show (9 : Nat) = 0 from z) (by omega)⟩)
      · rw [hmd, if_neg hdv] at h2
        refine RC_y (by rw [h2]; rfl) ?_
        rw [n1]
        by_cases hrg : (evV η R).1 < low ∨ high < (evV η R).1
        · have hf6 : fxF η lo low high R = 6 := by unfold fxF; rw [if_neg hany, if_neg hdv, if_pos hrg]
          rw [hf6, if_pos (show (6 : Nat) ≠ 0 by omega)]
          have bad : RC (fp sF3 x y) (some (((6 : Int32), (sF3, u.2)), (0, 0))) (fun v u_1 c => c = fp u_1.1 x y ∧ TQ sT u_1.2 ∧ v = nI 6 ∧ FVal u_1.1 ∧ (∃ ts', TPos ns Y u_1.2 ts') ∧ ((6 : Nat) = 0 → u_1.1.1 1 = 0 ∧ TPos ns Y u_1.2 [] ∧ ∃ S' Z', FR4 u_1.1 K V S' Z')) := RC_ret ⟨rfl, g3, rfl, ⟨_, _, _, _, hF3⟩, ⟨_, g2⟩, fun z => absurd z (by omega)⟩
          rcases hrg with hz | hz
          · exact RC_y hz bad
          · exact RC_if (fun _ => bad) (fun _ => RC_n (fun w => absurd hz (Int32.not_lt.mpr w)) bad)
        · have hf0 : fxF η lo low high R = 0 := by unfold fxF; rw [if_neg hany, if_neg hdv, if_neg hrg]
          rw [hf0, if_neg (show ¬ (0 : Nat) ≠ 0 by omega)]
          refine RC_n (fun z => hrg (Or.inl z)) (RC_y (Int32.not_lt.mp (fun z => hrg (Or.inr z))) (RC_ret ⟨rfl, g3, h2, ⟨_, _, _, _, hF3⟩, ⟨_, g2⟩, fun _ => ⟨n1, g2, _, _, hF3⟩⟩))
end
