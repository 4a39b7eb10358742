/-! ===== the class's evaluate ===== -/
def vA (v : Int32) : AT := (0, [], v, [], 0, 0)
def emb : List Int32 → List Int32 → List XSt
  | k :: K, v :: V => (k, vA v) :: emb K V
  | _, _ => []
theorem emb_len : ∀ {K V : List Int32}, K.length = V.length → (emb K V).length = K.length
  | [], [], _ => rfl
  | k :: K, v :: V, h => by
    simp only [List.length_cons] at h
    rw [emb, List.length_cons, List.length_cons, emb_len (by omega)]
  | [], _ :: _, h => by simp at h
  | _ :: _, [], h => by simp at h
theorem emb_at : ∀ {K V : List Int32}, K.length = V.length → ∀ i, i < K.length → (emb K V).drop i = (K.getD i 0, vA (V.getD i 0)) :: (emb K V).drop (i + 1)
  | [], [], _, i, hi => absurd hi (Nat.not_lt_zero _)
  | k :: K, v :: V, h, 0, hi => rfl
  | k :: K, v :: V, h, i + 1, hi => by
    simp only [List.length_cons] at h hi
    rw [emb, List.drop_succ_cons, List.drop_succ_cons, emb_at (by omega) i (by omega)]
    rfl
  | [], _ :: _, h, _, _ => by simp at h
  | _ :: _, [], h, _, _ => by simp at h
/-- what steps stand for in the class -/
def εC (so va : List Int32) (adr nxw : Int32 → Int32) (hd : Int32) (k v : Int32) : Int32 × Bool :=
  if k = 3 then (v, false) else if k = 2 then (if getR so v = 1 then (adr (getR va v), false) else (getR va v, decide (getR so v ≠ 2))) else if k = 7 then (adr hd, false) else if k = 8 then (adr v, decide (v < 10)) else (adr (nxw v), decide (nxw v < 10))
abbrev ηA (so va : List Int32) (adr nxw : Int32 → Int32) (hd : Int32) : Int32 → AT → Int32 × Bool := fun k a => εC so va adr nxw hd k a.v
theorem C_changed {s v : Int32} (h : s = 10 ∨ s = 11 ∨ s = 12 ∨ s = 13) : C_Frm_changed s v = some (un (sg s) v) := by
  unfold C_Frm_changed un sg
  rcases h with rfl | rfl | rfl | rfl <;> rfl
theorem lev7 {s : Int32} : levN s = 7 ↔ (s = 10 ∨ s = 11 ∨ s = 12 ∨ s = 13) := by
  unfold levN
  by_cases c1 : s = 10 ∨ s = 11 ∨ s = 12 ∨ s = 13
  · rw [if_pos c1]; exact ⟨fun _ => c1, fun _ => rfl⟩
  · rw [if_neg c1]
    refine ⟨fun z => ?_, fun z => absurd z c1⟩
    exfalso
    split at z
    · omega
    · split at z
      · omega
      · split at z
        · omega
        · split at z
          · omega
          · split at z
            · omega
            · split at z <;> omega
theorem C_joined {sF sN sT sP sI : CS} {s a b : Int32} {d : Bool} (hs : okS s) (h7 : levN s ≠ 7) (h40 : s ≠ 40) (h5 : sF.1 5 = b2 d) : ∃ sF', C_Frm_joined s a b sF sN sT sP sI = some (wk (sg s) a b, sF') ∧ sF'.1 5 = b2 (d || dvz (sg s) b) ∧ (∀ j, j ≠ 5 → sF'.1 j = sF.1 j) ∧ sF'.2 = sF.2 := by
  have keep : ∀ v : Int32, dvz (sg s) b = false → C_Frm_joined s a b sF sN sT sP sI = some (v, sF) → wk (sg s) a b = v → ∃ sF', C_Frm_joined s a b sF sN sT sP sI = some (wk (sg s) a b, sF') ∧ sF'.1 5 = b2 (d || dvz (sg s) b) ∧ (∀ j, j ≠ 5 → sF'.1 j = sF.1 j) ∧ sF'.2 = sF.2 := fun v h1 h2 h3 => ⟨sF, by rw [h2, h3], by rw [h1, Bool.or_false]; exact h5, fun _ _ => rfl, rfl⟩
  have hd : ∀ t : Int32, (t = 47 ∨ t = 37) → s = t → ∃ sF', C_Frm_joined s a b sF sN sT sP sI = some (wk (sg s) a b, sF') ∧ sF'.1 5 = b2 (d || dvz (sg s) b) ∧ (∀ j, j ≠ 5 → sF'.1 j = sF.1 j) ∧ sF'.2 = sF.2 := by
    intro t ht hst
    have hj : C_Frm_joined s a b sF sN sT sP sI = C_Frm_joined_88 s a b sF sN sT sP sI := by
      rcases ht with rfl | rfl <;> subst hst <;> rfl
    have hsg : sg s = t := by rcases ht with rfl | rfl <;> subst hst <;> rfl
    have hdv : dvz (sg s) b = decide (b = 0) := by rw [hsg]; rcases ht with rfl | rfl <;> (unfold dvz; simp)
    rw [hj, hdv]
    unfold C_Frm_joined_88 C_Frm_joined_114
    by_cases hb : b = 0
    · rw [if_pos hb, decide_eq_true hb, Bool.or_true]
      refine ⟨cF sF 5 1, ?_, rfl, fun j hj => pk_un hj, rfl⟩
      rw [hsg, hb]
      rcases ht with rfl | rfl <;> rfl
    · rw [if_neg hb, decide_eq_false hb, Bool.or_false, gd_t (show nz b = true by unfold nz; simpa using hb), gd_t (show nz b = true by unfold nz; simpa using hb)]
      refine ⟨sF, ?_, h5, fun _ _ => rfl, rfl⟩
      rw [hsg]
      unfold wk
      rcases ht with rfl | rfl
      · rw [if_pos hst]; rw [if_neg (by decide), if_neg (by decide), if_neg (by decide), if_neg (by decide), if_neg (by decide), if_neg (by decide), if_neg (by decide), if_neg (by decide), if_neg hb, if_pos rfl]
      · rw [if_neg (by rw [hst]; decide)]; rw [if_neg (by decide), if_neg (by decide), if_neg (by decide), if_neg (by decide), if_neg (by decide), if_neg (by decide), if_neg (by decide), if_neg (by decide), if_neg hb, if_neg (by decide)]
  have n7 : ∀ t : Int32, levN t = 7 → s ≠ t := fun t h z => h7 (by rw [z]; exact h)
  rcases hs with z | z | z | z | z | z | z | z | z | z | z | z | z | z | z
  · exact absurd z h40
  · exact absurd z (n7 10 (by decide))
  · exact absurd z (n7 11 (by decide))
  · exact absurd z (n7 12 (by decide))
  · exact absurd z (n7 13 (by decide))
  · subst z; exact keep (a * b) rfl rfl rfl
  · exact hd 47 (Or.inl rfl) z
  · exact hd 37 (Or.inr rfl) z
  · subst z; exact keep (a + b) rfl rfl rfl
  · subst z; exact keep (a - b) rfl rfl rfl
  · subst z
    refine keep (a <<< (b &&& 31)) rfl rfl ?_
    show a <<< ((b &&& 31) &&& 31) = _
    rw [Int32.and_assoc]
    rfl
  · subst z
    refine keep (a >>> (b &&& 31)) rfl rfl ?_
    show a >>> ((b &&& 31) &&& 31) = _
    rw [Int32.and_assoc]
    rfl
  · subst z; exact keep (a &&& b) rfl rfl rfl
  · subst z; exact keep (a ^^^ b) rfl rfl rfl
  · subst z; exact keep (a ||| b) rfl rfl rfl
theorem set_lst {α : Type} {A : List α} {a v : α} {i : Nat} (h : i = A.length) : (A ++ [a]).set i v = A ++ [v] := by
  rw [h, List.set_append, if_neg (by omega), Nat.sub_self]
  rfl
/-- steps whose signs are signs -/
def okX (R : List XSt) : Prop := ∀ s ∈ R, isOp s.1 = true ∨ (okS s.1 ∧ s.1 ≠ 40)
theorem evR_take (η : Int32 → AT → Int32 × Bool) (R : List XSt) {i : Nat} {s : XSt} {r : List XSt} (h : R.drop i = s :: r) : evR η (R.take (i + 1)) = evs η (evR η (R.take i)) s ∧ R.take (i + 1) = R.take i ++ [s] := by
  have e : R.take (i + 1) = R.take i ++ [s] := by
    rw [List.take_succ]
    congr 1
    have : R[i]? = some s := by
      have := congrArg (fun l => l[0]?) h
      simpa using this
    rw [this]
    rfl
  rw [e]
  exact ⟨evR_app _ _ _, rfl⟩
section
variable {N : Nat} {sN sT sP sI : CS} {x y : Nat} {ns : List (List Int32)} {so va op re od : List Int32} {adr nxw : Int32 → Int32} {hd : Int32}
set_option maxHeartbeats 1000000 in
theorem C_eval (hNL : NamL sN ns [] so va op re od) (hA : ∀ z, C_Prg_addressOf z sP sI = some (adr z)) (hW : ∀ z, ∃ r, C_Prg_find z sP sI = some r ∧ r < sI.2.2 0 + 1 ∧ sI.2.1 r 3 = nxw z) (h10 : sP.2.2 20 = 10) {A K B A' V B' S : List Int32} (hKV : K.length = V.length) (hAA : A.length = A'.length) (hlen : A.length + K.length ≤ 60000) (hdp : dpt (emb K V) = some 1) (hok : okX (emb K V)) :
    ∀ (m i : Nat) (sF : CS) (W : List Int32) (mm dd : Bool), i ≤ K.length → K.length - i < m → FR4 sF (A ++ K ++ B) (A' ++ V ++ B') S W.reverse → evR (ηA so va adr nxw hd) ((emb K V).take i) = (W, mm, dd) → dpt ((emb K V).take i) = some W.length → W.length ≤ i → sF.1 4 = b2 mm → sF.1 5 = b2 dd →
    RC (fp sF x y) (C_Frm_evaluate_21 N m (nI (A.length + K.length)) hd (nI (A.length + i)) sF sN sT sP sI) (fun r sF' c => c = fp sF' x y ∧ (∃ Z', FR4 sF' (A ++ K ++ B) (A' ++ V ++ B') S Z') ∧ sF'.1 1 = (evV (ηA so va adr nxw hd) (emb K V)).1 ∧ r = nI (mdF (evV (ηA so va adr nxw hd) (emb K V)).2.1 (evV (ηA so va adr nxw hd) (emb K V)).2.2) ∧ sF'.1 0 = sF.1 0) := by
  have hel := emb_len hKV
  intro m
  induction m with
  | zero => intro i sF W mm dd _ h; omega
  | succ m ih =>
    intro i sF W mm dd hi hm hF hev hd1 hWl h4 h5
    obtain ⟨f0, f1, f2, f3⟩ := id hF
    rw [C_Frm_evaluate_21]
    by_cases he : K.length ≤ i
    · refine RC_y (by rw [nI_leI (by omega) (by omega)]; omega) ?_
      have hi' : i = K.length := by omega
      have et : (emb K V).take i = emb K V := List.take_of_length_le (by omega)
      rw [et] at hev hd1
      rw [hdp] at hd1
      have hW1 : W.length = 1 := by injection hd1 with z; exact z.symm
      match W, hW1, f3, hev with
      | [w], _, f3, hev =>
        have ev : evV (ηA so va adr nxw hd) (emb K V) = (w, mm, dd) := by unfold evV; rw [hev]; rfl
        refine RC_cr (show C_Row_get 0 (rg sF 3) = some w by have := C_Row_get_eq f3 (nI 0); rw [getR_nI _ (by omega)] at this; exact this) (RC_bnd ?_)
        rw [ev]
        unfold C_Frm_evaluate_297
        rw [← fp_cF sF 1 w]
        have hF' : FR4 (cF sF 1 w) (A ++ K ++ B) (A' ++ V ++ B') S [w].reverse := ⟨by rw [rg_cF (by decide)]; exact f0, by rw [rg_cF (by decide)]; exact f1, by rw [rg_cF (by decide)]; exact f2, by rw [rg_cF (by decide)]; exact f3⟩
        have e4 : (cF sF 1 w).1 4 = b2 mm := h4
        have e5 : (cF sF 1 w).1 5 = b2 dd := h5
        have e0 : (cF sF 1 w).1 0 = sF.1 0 := rfl
        rw [e4, e5]
        cases mm with
        | true => exact RC_n (by decide) (RC_ret ⟨rfl, ⟨_, hF'⟩, rfl, rfl, e0⟩)
        | false =>
          refine RC_y (by decide) ?_
          cases dd with
          | true => exact RC_n (by decide) (RC_ret ⟨rfl, ⟨_, hF'⟩, rfl, rfl, e0⟩)
          | false => exact RC_y (by decide) (RC_ret ⟨rfl, ⟨_, hF'⟩, rfl, rfl, e0⟩)
    · refine RC_n (by rw [nI_leI (by omega) (by omega)]; omega) ?_
      have hd2 := emb_at hKV i (by omega)
      have gk : (A ++ K ++ B).getD (A.length + i) 0 = K.getD i 0 := by
        rw [List.append_assoc, gD_r (by omega), show A.length + i - A.length = i by omega, gD_l (by omega)]
      have gv : (A' ++ V ++ B').getD (A.length + i) 0 = V.getD i 0 := by
        rw [List.append_assoc, gD_r (by omega), show A.length + i - A'.length = i by omega, gD_l (by omega)]
      refine RC_cr (show C_Row_get (nI (A.length + i)) (rg sF 0) = some (K.getD i 0) by rw [C_Row_get_eq f0, getR_nI _ (by omega), gk]) ?_
      refine RC_cr (show C_Row_get (nI (A.length + i)) (rg sF 1) = some (V.getD i 0) by rw [C_Row_get_eq f1, getR_nI _ (by omega), gv]) ?_
      generalize K.getD i 0 = k at *
      generalize V.getD i 0 = v at *
      obtain ⟨e1, e2⟩ := evR_take (ηA so va adr nxw hd) (emb K V) hd2
      have hmem : (k, vA v) ∈ emb K V := by
        have : (k, vA v) ∈ (emb K V).drop i := by rw [hd2]; exact List.mem_cons_self
        exact List.mem_of_mem_drop this
      have hokk := hok _ hmem
      rw [hev] at e1
      -- the depth goes on
      have hdn : dpt ((emb K V).take (i + 1)) = dp1 (some W.length) (k, vA v) := by rw [e2, dpt_snoc, hd1]
      -- an operand
      have opd : ∀ (w : Int32) (f : Bool) (sF' : CS), isOp k = true → ηA so va adr nxw hd k (vA v) = (w, f) → fp sF' x y = fp sF x y → (∀ r, r < 4 → rg sF' r = rg sF r) → sF'.1 4 = b2 (mm || f) → sF'.1 5 = sF.1 5 → sF'.1 0 = sF.1 0 → RC (fp sF x y) (ct (C_Row_add w (rg sF' 3)) (fun r40 u41 => bnd (rs sF' 3 u41) (fun sF47 => C_Frm_evaluate_254 N (C_Frm_evaluate_21 N m) (nI (A.length + K.length)) hd (nI (A.length + i)) sF47 sN sT sP sI))) (fun r sF' c => c = fp sF' x y ∧ (∃ Z', FR4 sF' (A ++ K ++ B) (A' ++ V ++ B') S Z') ∧ sF'.1 1 = (evV (ηA so va adr nxw hd) (emb K V)).1 ∧ r = nI (mdF (evV (ηA so va adr nxw hd) (emb K V)).2.1 (evV (ηA so va adr nxw hd) (emb K V)).2.2) ∧ sF'.1 0 = sF.1 0) := by
        intro w f sF' hop hη hfp hrg g4 g5 g0
        rw [← hfp]
        refine RC_Fadd (by omega) (by rw [hrg 3 (by omega)]; exact f3) (by rw [List.length_reverse]; omega) w (fun sF1 a1 a2 a3 => ?_)
        unfold C_Frm_evaluate_254
        rw [nI_1, show A.length + i + 1 = A.length + (i + 1) by omega]
        have ee : evR (ηA so va adr nxw hd) ((emb K V).take (i + 1)) = (w :: W, mm || f, dd) := by
          rw [e1]
          unfold evs
          rw [if_pos (show isOp k = true from hop)]
          show ((ηA so va adr nxw hd k (vA v)).1 :: W, mm || (ηA so va adr nxw hd k (vA v)).2, dd) = _
          rw [hη]
        refine RC_imp (ih (i + 1) sF1 (w :: W) (mm || f) dd (by omega) (by omega) ⟨?_, ?_, ?_, ?_⟩ ee ?_ (by simp only [List.length_cons]; omega) ?_ ?_) (fun r sF'' c h => ⟨h.1, h.2.1, h.2.2.1, h.2.2.2.1, h.2.2.2.2.trans ((a3 0 (by omega)).trans g0)⟩)
        · rw [a2 0 (by decide), hrg 0 (by omega)]; exact f0
        · rw [a2 1 (by decide), hrg 1 (by omega)]; exact f1
        · rw [a2 2 (by decide), hrg 2 (by omega)]; exact f2
        · rw [List.reverse_cons]; exact a1
        · rw [hdn]
          unfold dp1
          simp only [Option.bind_some]
          rw [if_pos (show isOp k = true from hop)]
          rfl
        · rw [a3 4 (by omega)]; exact g4
        · rw [a3 5 (by omega), g5]; exact h5
      by_cases k3 : k = 3
      · refine RC_y k3 ?_
        refine opd v false sF (by rw [k3]; decide) (by rw [k3]; rfl) rfl (fun _ _ => rfl) (by rw [Bool.or_false]; exact h4) rfl rfl
      refine RC_n k3 ?_
      by_cases k2 : k = 2
      · refine RC_y k2 ?_
        unfold C_Frm_valueOf C_Frm_valueOf_51 C_Frm_valueOf_56
        rw [C_Row_get_eq hNL.r0, C_Row_get_eq hNL.r1]
        simp only [cr, Option.bind_some]
        have hηk : ηA so va adr nxw hd k (vA v) = (if getR so v = 1 then (adr (getR va v), false) else (getR va v, decide (getR so v ≠ 2))) := by rw [k2]; rfl
        by_cases s1 : getR so v = 1
        · rw [if_pos s1, hA]
          simp only [Option.bind_some, cl]
          exact opd _ false sF (by rw [k2]; decide) (by rw [hηk, if_pos s1]) rfl (fun _ _ => rfl) (by rw [Bool.or_false]; exact h4) rfl rfl
        · rw [if_neg s1]
          rw [if_neg s1] at hηk
          have g1 : ∀ b : Bool, isB (b2 b) = true := b2_isB
          by_cases m0 : sF.1 4 = 0
          · rw [if_pos m0]
            have mf : mm = false := b2_0.mp (h4.symm.trans m0)
            by_cases s2 : getR so v = 2
            · rw [if_pos s2, gd_t (by decide)]
              simp only [bnd, cl, Option.bind_some]
              exact opd _ false (cF sF 4 0) (by rw [k2]; decide) (by rw [hηk, decide_eq_false (by simpa using s2)]) rfl (fun r hr => rg_cF (by omega)) (by rw [cF_at, mf]; rfl) rfl rfl
            · rw [if_neg s2, gd_t (by decide)]
              simp only [bnd, cl, Option.bind_some]
              exact opd _ true (cF sF 4 1) (by rw [k2]; decide) (by rw [hηk, decide_eq_true s2]) rfl (fun r hr => rg_cF (by omega)) (by rw [cF_at, Bool.or_true]; rfl) rfl rfl
          · rw [if_neg m0, gd_t (by decide)]
            simp only [bnd, cl, Option.bind_some]
            have mt : mm = true := by
              cases mm with
              | true => rfl
              | false => exact absurd h4 m0
            exact opd _ _ (cF sF 4 1) (by rw [k2]; decide) hηk rfl (fun r hr => rg_cF (by omega)) (by rw [cF_at, mt, Bool.true_or]; rfl) rfl rfl
      refine RC_n k2 ?_
      by_cases k7 : k = 7
      · refine RC_y k7 ?_
        refine RC_cr (hA hd) ?_
        exact opd _ false sF (by rw [k7]; decide) (by rw [k7]; rfl) rfl (fun _ _ => rfl) (by rw [Bool.or_false]; exact h4) rfl rfl
      refine RC_n k7 ?_
      -- near labels
      have near : ∀ (t0 : Int32), isOp k = true → ηA so va adr nxw hd k (vA v) = (adr t0, decide (t0 < 10)) → RC (fp sF x y) (cl (C_Frm_nearAddress_21 t0 sF sN sT sP sI) (fun r1 u2 => ct (C_Row_add r1 (rg u2 3)) (fun r3 u4 => bnd (rs u2 3 u4) (fun sF10 => C_Frm_evaluate_254 N (C_Frm_evaluate_21 N m) (nI (A.length + K.length)) hd (nI (A.length + i)) sF10 sN sT sP sI)))) (fun r sF' c => c = fp sF' x y ∧ (∃ Z', FR4 sF' (A ++ K ++ B) (A' ++ V ++ B') S Z') ∧ sF'.1 1 = (evV (ηA so va adr nxw hd) (emb K V)).1 ∧ r = nI (mdF (evV (ηA so va adr nxw hd) (emb K V)).2.1 (evV (ηA so va adr nxw hd) (emb K V)).2.2) ∧ sF'.1 0 = sF.1 0) := by
        intro t0 hop hη
        unfold C_Frm_nearAddress_21 C_Frm_nearAddress_41 C_Frm_nearAddress_46 C_Prg_isInText C_Prg_isInText_14
        rw [h10, show nI 10 = (10 : Int32) from rfl]
        by_cases m0 : sF.1 4 = 0
        · rw [if_pos m0]
          have mf : mm = false := b2_0.mp (h4.symm.trans m0)
          by_cases ht : t0 < 10
          · rw [if_pos ht, gd_t (by decide)]
            simp only [cr, Option.bind_some]
            rw [if_pos True.intro, gd_t (by decide), hA]
            simp only [bnd, Option.bind_some, cl]
            exact opd _ true (cF sF 4 1) hop (by rw [hη, decide_eq_true ht]) rfl (fun r hr => rg_cF (by omega)) (by rw [cF_at, Bool.or_true]; rfl) rfl rfl
          · rw [if_neg ht, gd_t (by decide)]
            simp only [cr, Option.bind_some]
            rw [if_neg (by decide), gd_t (by decide), hA]
            simp only [bnd, Option.bind_some, cl]
            exact opd _ false (cF sF 4 0) hop (by rw [hη, decide_eq_false ht]) rfl (fun r hr => rg_cF (by omega)) (by rw [cF_at, mf]; rfl) rfl rfl
        · rw [if_neg m0, gd_t (by decide), hA]
          simp only [bnd, cr, Option.bind_some, cl]
          have mt : mm = true := by
            cases mm with
            | true => rfl
            | false => exact absurd h4 m0
          exact opd _ _ (cF sF 4 1) hop hη rfl (fun r hr => rg_cF (by omega)) (by rw [cF_at, mt, Bool.true_or]; rfl) rfl rfl
      by_cases k8 : k = 8
      · refine RC_y k8 ?_
        unfold C_Frm_evaluate_128 C_Frm_nearAddress
        rw [if_neg (by rw [k8]; decide)]
        exact near v (by rw [k8]; decide) (by rw [k8]; rfl)
      refine RC_n k8 ?_
      by_cases k9 : k = 9
      · refine RC_y k9 ?_
        unfold C_Frm_evaluate_128 C_Frm_nearAddress
        obtain ⟨r0, w1, w2, w3⟩ := hW v
        rw [if_pos k9, w1]
        simp only [cr, Option.bind_some]
        rw [gd_t (decide_eq_true w2), w3]
        exact near (nxw v) (by rw [k9]; decide) (by rw [k9]; rfl)
      refine RC_n k9 ?_
      have hnop : isOp k = false := by
        unfold isOp
        simp [k3, k2, k7, k8, k9]
      obtain ⟨hoS, h40⟩ := hokk.resolve_left (by rw [show isOp (k, vA v).1 = false from hnop]; decide)
      change okS k at hoS
      change k ≠ 40 at h40
      refine RC_cr (C_level k) ?_
      have ecnt : sF.1 103 = nI W.length := by have := f3.cnt; rw [List.length_reverse] at this; exact this
      have hdn' : ∃ z, dp1 (some W.length) (k, vA v) = some z := by
        rw [← hdn]
        have : ∀ (R1 R2 : List XSt) (z : Nat), dpt (R1 ++ R2) = some z → ∃ z', dpt R1 = some z' := by
          intro R1 R2
          induction R2 generalizing R1 with
          | nil => intro z h; rw [List.append_nil] at h; exact ⟨z, h⟩
          | cons s R2 ihR =>
            intro z h
            rw [show R1 ++ s :: R2 = (R1 ++ [s]) ++ R2 by simp] at h
            obtain ⟨z', hz'⟩ := ihR (R1 ++ [s]) z h
            rw [dpt_snoc] at hz'
            cases hr : dpt R1 with
            | none => rw [hr] at hz'; cases hz'
            | some q => exact ⟨q, rfl⟩
        exact this _ ((emb K V).drop (i + 1)) 1 (by rw [List.take_append_drop]; exact hdp)
      unfold dp1 at hdn hdn'
      simp only [Option.bind_some] at hdn hdn'
      rw [if_neg (by rw [show isOp k = false from hnop]; decide)] at hdn hdn'
      by_cases h7 : levN k = 7
      · refine RC_y (by rw [h7]; rfl) ?_
        rw [if_pos (show levN k = 7 from h7)] at hdn hdn'
        have hW1 : 1 ≤ W.length := by
          by_cases z : 1 ≤ W.length
          · exact z
          · rw [if_neg z] at hdn'; obtain ⟨q, hq⟩ := hdn'; cases hq
        rw [if_pos hW1] at hdn
        match W, hW1, f3, hev, e1, hdn, ecnt, hWl with
        | w :: W', _, f3, hev, e1, hdn, ecnt, hWl =>
          simp only [List.length_cons] at ecnt hWl
          have et : sF.1 103 - 1 = nI W'.length := by rw [ecnt, nI_pred]
          rw [et]
          have gt : C_Row_get (nI W'.length) (rg sF 3) = some w := by
            rw [C_Row_get_eq f3, getR_nI _ (by omega), List.reverse_cons]
            congr 1
            have := getD_mid W'.reverse [] w (0 : Int32)
            rw [List.length_reverse] at this
            exact this
          refine RC_cr gt (RC_cr (C_changed (lev7.mp h7)) ?_)
          refine RC_Fset (by omega) f3 (by omega) (un (sg k) w) (fun sF1 a1 a2 a3 => ?_)
          unfold C_Frm_evaluate_254
          rw [nI_1, show A.length + i + 1 = A.length + (i + 1) by omega]
          have es : ((w :: W').reverse).set W'.length (un (sg k) w) = (un (sg k) w :: W').reverse := by
            rw [List.reverse_cons, List.reverse_cons]
            exact set_lst (List.length_reverse).symm
          rw [es] at a1
          have ee : evR (ηA so va adr nxw hd) ((emb K V).take (i + 1)) = (un (sg k) w :: W', mm, dd) := by
            rw [e1]
            unfold evs
            rw [if_neg (show ¬ isOp k = true by rw [hnop]; decide), if_pos (show levN k = 7 from h7)]
          refine RC_imp (ih (i + 1) sF1 (un (sg k) w :: W') mm dd (by omega) (by omega) ⟨by rw [a2 0 (by decide)]; exact f0, by rw [a2 1 (by decide)]; exact f1, by rw [a2 2 (by decide)]; exact f2, a1⟩ ee hdn (by simp only [List.length_cons]; omega) (by rw [a3 4 (by omega)]; exact h4) (by rw [a3 5 (by omega)]; exact h5)) (fun r sF'' c h => ⟨h.1, h.2.1, h.2.2.1, h.2.2.2.1, h.2.2.2.2.trans (a3 0 (by omega))⟩)
      · have hlv := levN_le k
        refine RC_n (by rw [show (7 : Int32) = nI 7 from rfl, nI_eq (by omega) (by omega)]; exact h7) ?_
        rw [if_neg (show ¬ levN k = 7 from h7)] at hdn hdn'
        have hW2 : 2 ≤ W.length := by
          by_cases z : 2 ≤ W.length
          · exact z
          · rw [if_neg z] at hdn'; obtain ⟨q, hq⟩ := hdn'; cases hq
        rw [if_pos hW2] at hdn
        match W, hW2, f3, hev, e1, hdn, ecnt, hWl with
        | b :: a :: W', _, f3, hev, e1, hdn, ecnt, hWl =>
          simp only [List.length_cons] at ecnt hWl
          have et : sF.1 103 - 1 = nI (W'.length + 1) := by rw [ecnt, nI_pred]
          have et2 : nI (W'.length + 1) - 1 = nI W'.length := nI_pred _
          rw [et, et2]
          have er : (b :: a :: W').reverse = W'.reverse ++ [a, b] := by simp
          have ga : C_Row_get (nI W'.length) (rg sF 3) = some a := by
            rw [C_Row_get_eq f3, getR_nI _ (by omega), er, gD_r (by simp), List.length_reverse, Nat.sub_self]
            rfl
          have gb : C_Row_get (nI (W'.length + 1)) (rg sF 3) = some b := by
            rw [C_Row_get_eq f3, getR_nI _ (by omega), er, gD_r (by simp), List.length_reverse, show W'.length + 1 - W'.length = 1 by omega]
            rfl
          refine RC_cr ga (RC_cr gb ?_)
          obtain ⟨sFj, j1, j2, j3, j4⟩ := C_joined (sN := sN) (sT := sT) (sP := sP) (sI := sI) (a := a) (b := b) hoS h7 h40 h5
          refine RC_cl j1 ?_
          have jr : ∀ r, r < 4 → rg sFj r = rg sF r := fun r hr => by
            unfold rg
            rw [j3 (100 + r) (by omega), j4]
          have jfp : fp sFj x y = fp sF x y := by unfold fp capF; rw [j4]
          rw [← jfp]
          refine RC_Fcut (by omega) (by rw [jr 3 (by omega)]; exact f3) (by omega) (fun sF1 a1 a2 a3 => ?_)
          have ec : (b :: a :: W').reverse.take (W'.length + 1) = W'.reverse ++ [a] := by
            rw [er, List.take_append, List.length_reverse, show W'.length + 1 - W'.length = 1 by omega, List.take_of_length_le (by simp)]
            rfl
          rw [ec] at a1
          refine RC_Fset (by omega) a1 (by omega) (wk (sg k) a b) (fun sF2 b1 b2' b3 => ?_)
          unfold C_Frm_evaluate_254
          rw [nI_1, show A.length + i + 1 = A.length + (i + 1) by omega]
          have es : (W'.reverse ++ [a]).set W'.length (wk (sg k) a b) = (wk (sg k) a b :: W').reverse := by
            rw [List.reverse_cons]
            exact set_lst (List.length_reverse).symm
          rw [es] at b1
          have ee : evR (ηA so va adr nxw hd) ((emb K V).take (i + 1)) = (wk (sg k) a b :: W', mm, dd || dvz (sg k) b) := by
            rw [e1]
            unfold evs
            rw [if_neg (show ¬ isOp k = true by rw [hnop]; decide), if_neg (show ¬ levN k = 7 from h7)]
          refine RC_imp (ih (i + 1) sF2 (wk (sg k) a b :: W') mm (dd || dvz (sg k) b) (by omega) (by omega) ⟨?_, ?_, ?_, b1⟩ ee (by rw [hdn]; simp) (by simp only [List.length_cons]; omega) ?_ ?_) (fun r sF'' c h => ⟨h.1, h.2.1, h.2.2.1, h.2.2.2.1, h.2.2.2.2.trans ((b3 0 (by omega)).trans ((a3 0 (by omega)).trans (j3 0 (by decide))))⟩)
          · rw [b2' 0 (by decide), a2 0 (by decide), jr 0 (by omega)]; exact f0
          · rw [b2' 1 (by decide), a2 1 (by decide), jr 1 (by omega)]; exact f1
          · rw [b2' 2 (by decide), a2 2 (by decide), jr 2 (by omega)]; exact f2
          · rw [b3 4 (by omega), a3 4 (by omega), j3 4 (by decide)]; exact h4
          · rw [b3 5 (by omega), a3 5 (by omega)]; exact j2
end
