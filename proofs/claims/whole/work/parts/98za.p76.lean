/-! ===== the class's parser: numbers, strings ===== -/
/-- what a statement leaves: a fault; or no fault, but not the line's end; or its items -/
def StP (ns : List (List Int32)) (nr : Nat → Nat) (Y K V : List Int32) (b ln sec : Nat) (sP sIc sT : CS) (n0 : Nat) (B : BR) (v : Int32) (u : CS × CS × CS × CS) : Prop :=
  TQ sT u.2.1 ∧ ((v ≠ 0 ∧ v = nI (fnF B) ∧ Bd sP u.1 u.2.2.1 u.2.2.2 ∧ ∃ ts', TPos ns Y u.2.1 ts') ∨ (v = 0 ∧ fnF B = 1 ∧ Bd sP u.1 u.2.2.1 u.2.2.2 ∧ ∃ ts', TPos ns Y u.2.1 ts' ∧ kAt ts' 0 ≠ 0) ∨ (v = 0 ∧ fnF B = 0 ∧ TPos ns Y u.2.1 B.2.2 ∧ Gd ns nr Y K V b ln sec B.2.1 (n0 - B.2.2.length) sP sIc u.1 u.2.2.1 u.2.2.2))
theorem Gd.bd {ns : List (List Int32)} {nr : Nat → Nat} {Y K V : List Int32} {b ln sec : Nat} {its : List AI} {kb : Nat} {sP sI sF' sP' sI' : CS} (h : Gd ns nr Y K V b ln sec its kb sP sI sF' sP' sI') : Bd sP sF' sP' sI' := by
  obtain ⟨K2, V2, S', Z', h1, h2, h3, h4, h5, h6, h7⟩ := h
  exact ⟨⟨_, _, _, _, h1⟩, ⟨_, h4⟩, h5.z⟩
theorem kAt_atE (ts : List AT) : (kAt ts 0 = 0) ↔ atE ts = true := by
  cases ts with
  | nil => exact ⟨fun _ => rfl, fun _ => rfl⟩
  | cons a r => show a.k = 0 ↔ decide (a.k = 0) = true; rw [decide_eq_true_eq]
theorem ShP.st {ns : List (List Int32)} {nr : Nat → Nat} {Y K V : List Int32} {b ln sec : Nat} {sP sIc sT : CS} {n0 : Nat} {s : SR} {v : Int32} {u : CS × CS × CS × CS} (hle : s.1 ≤ 15) (h : ShP ns nr Y K V b ln sec sP sIc sT n0 s v u) : StP ns nr Y K V b ln sec sP sIc sT n0 (s.1, siS s, s.2.2.2.2) v u := by
  obtain ⟨h1, h2⟩ := h
  refine ⟨h1, ?_⟩
  rcases h2 with ⟨g1, g2, g3, g4⟩ | ⟨g1, g2, g3, g4⟩
  · left
    have e : fnF (s.1, siS s, s.2.2.2.2) = s.1 := by unfold fnF; rw [if_pos g1]
    rw [e]
    exact ⟨by rw [g2]; exact fun z => g1 ((fl_nI s.1 hle).mp z), g2, g3, g4⟩
  · right
    by_cases hE : atE s.2.2.2.2 = true
    · right
      have e : fnF (s.1, siS s, s.2.2.2.2) = 0 := by unfold fnF; rw [if_neg (fun z => z g1), if_pos hE]
      exact ⟨g2, e, g3, g4⟩
    · left
      have e : fnF (s.1, siS s, s.2.2.2.2) = 1 := by unfold fnF; rw [if_neg (fun z => z g1), if_neg hE]
      exact ⟨g2, e, g4.bd, _, g3, fun z => hE ((kAt_atE _).mp z)⟩
theorem it_snoc {ns : List (List Int32)} {nr : Nat → Nat} {Y KA VA KB VB : List Int32} {b ln sec : Nat} {its : List AI} {it : AI} {sI1 sI3 : CS} (old : ∀ j it', its[j]? = some it' → ItX ns nr Y KA VA sI1 (b + j) ln sec b it') (same : ∀ k, k ≠ b + its.length + 1 → sI3.2.1 k = sI1.2.1 k) (new : ItX ns nr Y (KA ++ KB) (VA ++ VB) sI3 (b + its.length) ln sec b it) : ∀ j it', (its ++ [it])[j]? = some it' → ItX ns nr Y (KA ++ KB) (VA ++ VB) sI3 (b + j) ln sec b it' := by
  intro j it' hj
  by_cases hlt : j < its.length
  · rw [List.getElem?_append_left hlt] at hj
    exact (old j it' hj).more (same _ (by omega)) KB VB
  · rw [List.getElem?_append_right (by omega)] at hj
    have : j = its.length := by
      rcases Nat.lt_or_ge 0 (j - its.length) with z | z
      · rw [List.getElem?_eq_none (by simp; omega)] at hj; cases hj
      · omega
    subst this
    rw [Nat.sub_self] at hj
    have : it = it' := by simpa using hj
    rw [← this]
    exact new
section
variable {N : Nat} {ns : List (List Int32)} {nr : Nat → Nat} {Y so va op re od K V : List Int32} {sN sP sI sR : CS} {lo : AT → Bool} {x y b ln sec : Nat}
set_option maxHeartbeats 1000000 in
theorem C_nums (C : PCx N ns so va op re od nr lo sN sP) (hsb : SB b ln sec sP) (hKV : K.length = V.length) {size : Nat} {sT0 : CS} {n0 : Nat} (hn0 : K.length + n0 ≤ 60000) (hb5 : b + n0 < 4990) :
    ∀ (n m cn : Nat) (ts : List AT) (its : List AI) (sF sT sP1 sI1 : CS), ts.length ≤ n → n < m → ts.length ≤ cn → cn < 2 ^ 30 → TPos ns Y sT ts → TQ sT0 sT → HasE ts → NrF ts → its.length + ts.length ≤ n0 → Gd ns nr Y K V b ln sec its (n0 - ts.length) sP sI sF sP1 sI1 →
    RC (tp sF sP sI1 x y) (C_Par_readNumbers_10 N m (nI size) 1 (nI cn) sR sF sN sT sP1 sI1) (fun v u c => c = tp u.1 u.2.2.1 u.2.2.2 x y ∧ StP ns nr Y K V b ln sec sP sI sT0 n0 ((nmT n ts).1, its ++ (nmT n ts).2.1.map (fun R => ((61 : Int32), (0 : Int32), size, R, ([] : List Int32))), (nmT n ts).2.2) v u) := by
  intro n
  induction n with
  | zero =>
    intro m cn ts its sF sT sP1 sI1 h1 h2 _ _ _ _ hE
    obtain ⟨a, ha, -⟩ := hE
    cases ts with
    | nil => cases ha
    | cons _ _ => simp at h1
  | succ n ih =>
    intro m cn ts its sF sT sP1 sI1 hl hm hcn hcb hT hTq hE hNr hit hG
    obtain ⟨m', rfl⟩ : ∃ m', m = m' + 1 := ⟨m - 1, by omega⟩
    obtain ⟨m'', rfl⟩ : ∃ m'', m' = m'' + 1 := ⟨m' - 1, by omega⟩
    have hpos : 1 ≤ ts.length := by
      obtain ⟨a, ha, -⟩ := hE
      cases ts with
      | nil => cases ha
      | cons _ _ => simp
    obtain ⟨cn', rfl⟩ : ∃ cn', cn = cn' + 1 := ⟨cn - 1, by omega⟩
    have hG' := hG
    obtain ⟨K2, V2, S, Z, hF, g2, g3, g4, g5, g6, g7⟩ := hG
    have C1 : PCx N ns so va op re od nr lo sN sP1 := C.p (by rw [g4]; rfl)
    obtain ⟨c1, c2, c3, c4, c5⟩ := id C1
    rw [C_Par_readNumbers_10]
    refine RC_n (by rw [show (0 : Int32) = nI 0 from rfl, nI_leI (by omega) (by omega)]; omega) (RC_n (by decide) ?_)
    unfold C_Frm_end
    refine RC_cr rfl ?_
    rw [tp_f]
    have hcm := C_compile (x := 2 * sP.2.2 0 + (9 * sI1.2.2 0 + 4 * sI1.2.2 1) + x) (y := sP.2.2 0 + 64 * (sI1.2.2 0 + sI1.2.2 1) + y) (Z := Z) (S0 := S) (sI := sI1) c1 c2 c3 c4 hE hNr hT hF (by simp only [List.length_append]; omega) (by simp only [List.length_append]; omega)
    refine RC_then hcm (fun v u cc hu => ?_)
    obtain ⟨rfl, hcm2⟩ := hu
    rw [← tp_f, hF.len.1, nmT]
    cases hct : cmpT ts with
    | none =>
      rw [hct] at hcm2
      obtain ⟨rfl, b2', b3, b4⟩ := hcm2
      refine RC_y rfl (RC_ret ⟨by rw [g4]; rfl, hTq.tr b3, Or.inl ⟨by decide, rfl, ⟨b2', ⟨_, g4⟩, g5.z⟩, b4⟩⟩)
    | some z =>
      obtain ⟨R, rest⟩ := z
      rw [hct] at hcm2
      obtain ⟨rfl, q2, q3, q4, K', V', S', q5, q6⟩ := hcm2
      simp only []
      refine RC_n (by decide) ?_
      have hsf := (cmpT_suf hct).1
      have hslen := hsf.len
      have hrl := cmpT_Rlen hct
      have hs6 := StpL_len q6
      refine RC_item (sP := sP) (n := b + its.length) hsb g4 g5 (by omega) 61 0 (nI size) (fun sI2 hf hold hL2 => ?_)
      have hin : decide (b + its.length + 1 < sI2.2.2 0 + 1) = true := by have := hL2.1; simp; omega
      refine RC_gd hin (RC_bnd (RC_cr rfl (RC_gd hin (RC_bnd ?_))))
      have hk0 := T_kind q2 (j := 0) (by omega)
      change C_Tok_kind 0 u.2 = some _ at hk0
      refine RC_cr hk0 ?_
      generalize eI3 : cA (cA sI2 (b + its.length + 1) 7 (nI (K ++ K2).length)) (b + its.length + 1) 8 (u.1.1 100) = sI3
      have hG3 : Gd ns nr Y K V b ln sec (its ++ [(61, 0, size, R, [])]) (n0 - rest.length) sP sI u.1 (cF sP 1 (nI (b + its.length + 1))) sI3 := by
        refine ⟨K2 ++ K', V2 ++ V', S', Z, by rw [← List.append_assoc, ← List.append_assoc]; exact q5, by simp only [List.length_append]; omega, ?_, by rw [List.length_append]; rfl, ?_, fun k hk => ?_, by simp only [List.length_append]; omega⟩
        · rw [← List.append_assoc, ← List.append_assoc]
          refine it_snoc (sI1 := sI1) g3 (fun k hk => ?_) ?_
          · rw [← eI3]
            unfold cA
            simp only []
            rw [if_neg hk, if_neg hk]
            exact hold k hk
          · refine ItX_mk (f := nI (K ++ K2).length) (t := nI ((K ++ K2).length + K'.length)) hf (fun j hj => ?_) ?_ ?_ rfl (fun _ => rfl) (fun z => absurd (show (61 : Int32) = 4 from z) (by decide)) (fun _ => rfl) ⟨K ++ K2, K', [], V ++ V2, V', [], by rw [List.append_nil], by rw [List.append_nil], by simp only [List.length_append]; omega, rfl, rfl, q6⟩
            · rw [← eI3]
              unfold cA
              simp only [if_true]
              rw [pk_un (by omega), pk_un (by omega)]
            · rw [← eI3]
              unfold cA
              simp only [if_true]
              rw [pk_un (by omega), pk_us]
            · rw [← eI3]
              unfold cA
              simp only [if_true]
              rw [pk_us, q5.len.1, List.length_append (as := K ++ K2)]
        · have : sI3.2.2 = sI2.2.2 := by rw [← eI3]; rfl
          unfold LOk at hL2 ⊢
          rw [this, List.length_append]
          exact hL2
        · rw [← eI3]
          unfold cA
          simp only []
          rw [if_neg (show ¬ k = b + its.length + 1 by omega), if_neg (show ¬ k = b + its.length + 1 by omega), hold k (by omega)]
          exact g6 k hk
      have ec : tp u.1 sP sI2 x y = tp u.1 sP sI3 x y := by rw [← eI3]; rfl
      rw [ec]
      clear eI3 hf hold
      unfold C_Par_readNumbers_89 C_Par_readNumbers_102
      by_cases h44 : kAt rest 0 = 44
      · refine RC_y h44 (RC_n (by decide) ?_)
        cases rest with
        | nil => exact absurd h44 (by decide)
        | cons a r =>
          rw [kAt_0] at h44
          obtain ⟨sT', t1, t2, t3, t4⟩ := T_skip q2 (j := 1) (by omega)
          change C_Tok_skip 1 u.2 = some (0, sT') at t1
          refine RC_cl t1 ?_
          rw [pk_m1]
          have hnE : ¬ atE (a :: r) = true := by show ¬ decide (a.k = 0) = true; rw [h44]; decide
          have htk : tk1 44 (a :: r) = some (a, r) := by show (if a.k = 44 then some (a, r) else none) = _; rw [if_pos h44]
          rw [if_neg hnE, htk]
          simp only []
          have hsf2 : Suf r (a :: r) 1 := Suf.c1 (by rw [h44]; decide) (by rw [h44]; decide)
          simp only [List.length_cons] at hslen hrl
          have := ih (m'' + 1) cn' r (its ++ [(61, 0, size, R, [])]) u.1 sT' (cF sP 1 (nI (b + its.length + 1))) sI3 (by omega) (by omega) (by omega) (by omega) t2 ((hTq.tr q3).tr ⟨t3, t4⟩) (hsf2.hasE (hsf.hasE hE)) (hsf2.nrF (hsf.nrF hNr)) (by simp only [List.length_append, List.length_cons, List.length_nil]; omega) (by
            obtain ⟨a1, a2, a3, a4, a5, a6, a7, a8, a9, a10, a11⟩ := hG3
            exact ⟨a1, a2, a3, a4, a5, a6, a7, a8, a9, a10, by simp only [List.length_cons] at a11; omega⟩)
          rw [List.append_assoc] at this
          exact this
      · refine RC_n h44 (RC_y rfl ?_)
        rw [C_Par_readNumbers_10]
        have fin : ∀ v : Int32, v = 0 → RC (tp u.1 sP sI3 x y) (C_Par_readNumbers_108 N sR u.1 sN u.2 (cF sP 1 (nI (b + its.length + 1))) sI3) (fun v u_1 c => c = tp u_1.1 u_1.2.2.1 u_1.2.2.2 x y ∧ StP ns nr Y K V b ln sec sP sI sT0 n0 ((if atE rest = true then ((0 : Nat), [R], rest) else match tk1 44 rest with
            | none => (1, [], [])
            | some y => ((nmT n y.2).1, R :: (nmT n y.2).2.1, (nmT n y.2).2.2)).1, its ++ (if atE rest = true then ((0 : Nat), [R], rest) else match tk1 44 rest with
            | none => (1, [], [])
            | some y => ((nmT n y.2).1, R :: (nmT n y.2).2.1, (nmT n y.2).2.2)).2.1.map (fun R => ((61 : Int32), (0 : Int32), size, R, ([] : List Int32))), (if atE rest = true then ((0 : Nat), [R], rest) else match tk1 44 rest with
            | none => (1, [], [])
            | some y => ((nmT n y.2).1, R :: (nmT n y.2).2.1, (nmT n y.2).2.2)).2.2) v u_1) := by
          intro v _
          unfold C_Par_readNumbers_108
          by_cases hEr : atE rest = true
          · rw [if_pos hEr]
            refine RC_ret ⟨rfl, hTq.tr q3, Or.inr (Or.inr ⟨rfl, ?_, q2, hG3⟩)⟩
            unfold fnF
            rw [if_neg (fun z => z rfl), if_pos hEr]
          · have htk : tk1 44 rest = none := by
              cases rest with
              | nil => rfl
              | cons a r => show (if a.k = 44 then some (a, r) else none) = none; rw [if_neg (show ¬ a.k = 44 from h44)]
            rw [if_neg hEr, htk]
            exact RC_ret ⟨rfl, hTq.tr q3, Or.inr (Or.inl ⟨rfl, rfl, hG3.bd, rest, q2, fun z => hEr ((kAt_atE _).mp z)⟩)⟩
        rw [pk_m1]
        exact RC_if (fun _ => fin 0 rfl) (fun _ => RC_y rfl (fin 0 rfl))
set_option maxHeartbeats 1000000 in
theorem C_strs (C : PCx N ns so va op re od nr lo sN sP) (hsb : SB b ln sec sP) {z : Nat} (hz : z ≤ 1) {sF sT0 : CS} {n0 : Nat} (hb5 : b + n0 < 4990) {S Z : List Int32} (hF : FR4 sF K V S Z) :
    ∀ (n m cn : Nat) (ts : List AT) (its : List AI) (sT sP1 sI1 : CS), ts.length ≤ n → n < m → ts.length ≤ cn → cn < 2 ^ 30 → TPos ns Y sT ts → TQ sT0 sT → HasE ts → its.length + ts.length ≤ n0 → (∀ j it, its[j]? = some it → ItX ns nr Y K V sI1 (b + j) ln sec b it) → sP1 = cF sP 1 (nI (b + its.length)) → LOk sI1 (b + its.length) → (∀ k, k ≤ b → sI1.2.1 k = sI.2.1 k) →
    RC (tp sF sP sI1 x y) (C_Par_readStrings_10 N m (nI z) 1 (nI cn) sR sF sN sT sP1 sI1) (fun v u c => c = tp sF u.2.1 u.2.2 x y ∧ StP ns nr Y K V b ln sec sP sI sT0 n0 ((stT n ts).1, its ++ (stT n ts).2.1.map (fun s => ((4 : Int32), (0 : Int32), s.length + z, ([] : List XSt), s)), (stT n ts).2.2) v (sF, u.1, u.2.1, u.2.2)) := by
  intro n
  induction n with
  | zero =>
    intro m cn ts its sT sP1 sI1 h1 h2 _ _ _ _ hE
    obtain ⟨a, ha, -⟩ := hE
    cases ts with
    | nil => cases ha
    | cons _ _ => simp at h1
  | succ n ih =>
    intro m cn ts its sT sP1 sI1 hl hm hcn hcb hT hTq hE hit g3 g4 g5 g6
    obtain ⟨m', rfl⟩ : ∃ m', m = m' + 1 := ⟨m - 1, by omega⟩
    obtain ⟨m'', rfl⟩ : ∃ m'', m' = m'' + 1 := ⟨m' - 1, by omega⟩
    have hk0 := T_kind hT (j := 0) (by omega)
    change C_Tok_kind 0 sT = some _ at hk0
    cases ts with
    | nil => obtain ⟨a, ha, -⟩ := hE; cases ha
    | cons a r =>
      simp only [List.length_cons] at hl hcn hit
      obtain ⟨cn', rfl⟩ : ∃ cn', cn = cn' + 1 := ⟨cn - 1, by omega⟩
      rw [C_Par_readStrings_10]
      refine RC_n (by rw [show (0 : Int32) = nI 0 from rfl, nI_leI (by omega) (by omega)]; omega) (RC_n (by decide) (RC_cr hk0 ?_))
      rw [kAt_0, stT]
      by_cases k6 : a.k = 6
      · have htk6 : tk1 6 (a :: r) = some (a, r) := by show (if a.k = 6 then some (a, r) else none) = _; rw [if_pos k6]
        rw [htk6]
        simp only []
        refine RC_y k6 ?_
        obtain ⟨v, wl, tv, tr, tl⟩ := T_value hT (j := 0) (by omega) (a := a) (r := r) rfl
        change C_Tok_value 0 sT = some v at tv
        obtain ⟨Y1, Y2, y1, y2, y3⟩ := tr.2.2.2 k6
        change v = nI Y1.length at y2
        change wl = nI a.s.length at y3
        refine RC_cr tv (RC_cr (tl rfl) ?_)
        rw [y2, y3, nI_add]
        refine RC_item (sP := sP) (n := b + its.length) hsb g4 g5 (by omega) 4 (nI Y1.length) (nI (a.s.length + z)) (fun sI2 hf hold hL2 => ?_)
        obtain ⟨sT', t1, t2, t3, t4⟩ := T_skip hT (j := 1) (by omega)
        change C_Tok_skip 1 sT = some (0, sT') at t1
        change TPos ns Y sT' r at t2
        refine RC_cl t1 ?_
        have hk1 := T_kind t2 (j := 0) (by omega)
        change C_Tok_kind 0 sT' = some _ at hk1
        refine RC_cr hk1 ?_
        have new : ∀ j it', (its ++ [((4 : Int32), (0 : Int32), a.s.length + z, ([] : List XSt), a.s)])[j]? = some it' → ItX ns nr Y K V sI2 (b + j) ln sec b it' := by
          have := it_snoc (KB := []) (VB := []) (sI1 := sI1) (sI3 := sI2) (it := ((4 : Int32), (0 : Int32), a.s.length + z, ([] : List XSt), a.s)) g3 hold (by
            refine ItX_mk (f := 0) (t := 0) hf (fun j hj => rfl) ?_ ?_ rfl (fun _ => rfl) (fun _ => ⟨Y1, Y2, y1, rfl⟩) (fun w => absurd (show (4 : Int32) = 4 from rfl) w) ⟨[], [], K ++ [], [], [], V ++ [], rfl, rfl, rfl, rfl, rfl, trivial⟩
            · rw [hf 7 (by omega)]; rfl
            · rw [hf 8 (by omega)]; rfl)
          rw [List.append_nil, List.append_nil] at this
          exact this
        have old6 : ∀ k, k ≤ b → sI2.2.1 k = sI.2.1 k := fun k hk => (hold k (by omega)).trans (g6 k hk)
        have hG3 : ∀ kb, Gd ns nr Y K V b ln sec (its ++ [(4, 0, a.s.length + z, [], a.s)]) kb sP sI sF (cF sP 1 (nI (b + its.length + 1))) sI2 := fun kb => ⟨[], [], S, Z, by rw [List.append_nil, List.append_nil]; exact hF, rfl, by rw [List.append_nil, List.append_nil]; exact new, by rw [List.length_append]; rfl, by rw [List.length_append]; exact hL2, old6, Nat.zero_le _⟩
        unfold C_Par_readStrings_85 C_Par_readStrings_98
        by_cases h44 : kAt r 0 = 44
        · refine RC_y h44 (RC_n (by decide) ?_)
          cases r with
          | nil => exact absurd h44 (by decide)
          | cons c r2 =>
            rw [kAt_0] at h44
            obtain ⟨sT2, s1, s2, s3, s4⟩ := T_skip t2 (j := 1) (by omega)
            change C_Tok_skip 1 sT' = some (0, sT2) at s1
            refine RC_cl s1 ?_
            rw [pk_m1]
            have hnE : ¬ atE (c :: r2) = true := by show ¬ decide (c.k = 0) = true; rw [h44]; decide
            have htk : tk1 44 (c :: r2) = some (c, r2) := by show (if c.k = 44 then some (c, r2) else none) = _; rw [if_pos h44]
            rw [if_neg hnE, htk]
            simp only [List.length_cons] at hl hcn hit
            have hE2 : HasE r2 := (hE.tl (by rw [k6]; decide)).tl (by rw [h44]; decide)
            have := ih (m'' + 1) cn' r2 (its ++ [(4, 0, a.s.length + z, [], a.s)]) sT2 (cF sP 1 (nI (b + its.length + 1))) sI2 (by omega) (by omega) (by omega) (by omega) s2 ((hTq.tr ⟨t3, t4⟩).tr ⟨s3, s4⟩) hE2 (by simp only [List.length_append, List.length_cons, List.length_nil]; omega) new (by rw [List.length_append]; rfl) (by rw [List.length_append]; exact hL2) old6
            rw [List.append_assoc] at this
            exact this
        · refine RC_n h44 (RC_y rfl ?_)
          rw [C_Par_readStrings_10]
          have fin : RC (tp sF sP sI2 x y) (C_Par_readStrings_104 N sR sF sN sT' (cF sP 1 (nI (b + its.length + 1))) sI2) (fun v u c => c = tp sF u.2.1 u.2.2 x y ∧ StP ns nr Y K V b ln sec sP sI sT0 n0 ((if atE r = true then ((0 : Nat), [a.s], r) else match tk1 44 r with
              | none => (1, [], [])
              | some y => ((stT n y.2).1, a.s :: (stT n y.2).2.1, (stT n y.2).2.2)).1, its ++ (if atE r = true then ((0 : Nat), [a.s], r) else match tk1 44 r with
              | none => (1, [], [])
              | some y => ((stT n y.2).1, a.s :: (stT n y.2).2.1, (stT n y.2).2.2)).2.1.map (fun s => ((4 : Int32), (0 : Int32), s.length + z, ([] : List XSt), s)), (if atE r = true then ((0 : Nat), [a.s], r) else match tk1 44 r with
              | none => (1, [], [])
              | some y => ((stT n y.2).1, a.s :: (stT n y.2).2.1, (stT n y.2).2.2)).2.2) v (sF, u.1, u.2.1, u.2.2)) := by
            unfold C_Par_readStrings_104
            by_cases hEr : atE r = true
            · rw [if_pos hEr]
              refine RC_ret ⟨rfl, hTq.tr ⟨t3, t4⟩, Or.inr (Or.inr ⟨rfl, ?_, t2, hG3 _⟩)⟩
              unfold fnF
              rw [if_neg (fun z => z rfl), if_pos hEr]
            · have htk : tk1 44 r = none := by
                cases r with
                | nil => rfl
                | cons c r2 => show (if c.k = 44 then some (c, r2) else none) = none; rw [if_neg (show ¬ c.k = 44 from h44)]
              rw [if_neg hEr, htk]
              exact RC_ret ⟨rfl, hTq.tr ⟨t3, t4⟩, Or.inr (Or.inl ⟨rfl, rfl, (hG3 0).bd, r, t2, fun z => hEr ((kAt_atE _).mp z)⟩)⟩
          rw [pk_m1]
          exact RC_if (fun _ => fin) (fun _ => RC_y rfl fin)
      · have htk6 : tk1 6 (a :: r) = none := by show (if a.k = 6 then some (a, r) else none) = _; rw [if_neg k6]
        rw [htk6]
        refine RC_n k6 (RC_ret ⟨by rw [g4]; rfl, hTq, Or.inl ⟨by decide, rfl, ⟨⟨_, _, _, _, hF⟩, ⟨_, g4⟩, g5.z⟩, _, hT⟩⟩)
end
