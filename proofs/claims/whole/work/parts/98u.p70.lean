/-! ===== environments that agree; items of the program ===== -/
theorem evs_agree {η η' : Int32 → AT → Int32 × Bool} {k : Int32} {a a' : AT} {V V' : EvS} (hV : V.2.1 = V'.2.1 ∧ (V.2.1 = false → V = V')) (h : isOp k = true → (η k a).2 = (η' k a').2 ∧ ((η k a).2 = false → (η k a).1 = (η' k a').1)) : (evs η V (k, a)).2.1 = (evs η' V' (k, a')).2.1 ∧ ((evs η V (k, a)).2.1 = false → evs η V (k, a) = evs η' V' (k, a')) := by
  unfold evs
  by_cases ho : isOp k = true
  · rw [if_pos (show isOp k = true from ho), if_pos (show isOp k = true from ho)]
    obtain ⟨h1, h2⟩ := h ho
    refine ⟨?_, fun hz => ?_⟩
    · show (V.2.1 || (η k a).2) = (V'.2.1 || (η' k a').2)
      rw [hV.1, h1]
    · have hz' : (V.2.1 || (η k a).2) = false := hz
      rw [Bool.or_eq_false_iff] at hz'
      have e := hV.2 hz'.1
      show ((η k a).1 :: V.1, V.2.1 || (η k a).2, V.2.2) = ((η' k a').1 :: V'.1, V'.2.1 || (η' k a').2, V'.2.2)
      rw [h2 hz'.2, h1, e]
  · rw [if_neg (show ¬ isOp k = true from ho), if_neg (show ¬ isOp k = true from ho)]
    have m1 : ∀ (η : Int32 → AT → Int32 × Bool) (U : EvS), (match U.1 with
      | v :: W => (un (sg k) v :: W, U.2)
      | [] => U).2.1 = U.2.1 := fun η U => by
        obtain ⟨l, r⟩ := U
        cases l <;> rfl
    have m2 : ∀ (U : EvS), (match U.1 with
      | b :: a :: W => (wk (sg k) a b :: W, U.2.1, U.2.2 || dvz (sg k) b)
      | _ => U).2.1 = U.2.1 := fun U => by
        obtain ⟨l, r⟩ := U
        match l with
        | [] => rfl
        | [_] => rfl
        | _ :: _ :: _ => rfl
    by_cases h7 : levN k = 7
    · rw [if_pos (show levN k = 7 from h7), if_pos (show levN k = 7 from h7)]
      refine ⟨(m1 η V).trans (hV.1.trans (m1 η V').symm), fun hz => ?_⟩
      rw [hV.2 ((m1 η V).symm.trans hz)]
    · rw [if_neg (show ¬ levN k = 7 from h7), if_neg (show ¬ levN k = 7 from h7)]
      refine ⟨(m2 V).trans (hV.1.trans (m2 V').symm), fun hz => ?_⟩
      rw [hV.2 ((m2 V).symm.trans hz)]
def AgS (ns : List (List Int32)) (nr : Nat → Nat) (ηc : Int32 → AT → Int32 × Bool) (η : Int32 → AT → Int32 × Bool) (R : List XSt) : Prop := ∀ s ∈ R, ∀ v, StepR ns nr s.1 v s → isOp s.1 = true → (ηc s.1 (vA v)).2 = (η s.1 s.2).2 ∧ ((ηc s.1 (vA v)).2 = false → (ηc s.1 (vA v)).1 = (η s.1 s.2).1)
theorem evR_agree {ns : List (List Int32)} {nr : Nat → Nat} {ηc η : Int32 → AT → Int32 × Bool} : ∀ {K V : List Int32} {R : List XSt} (U U' : EvS), StpL ns nr K V R → AgS ns nr ηc η R → (U.2.1 = U'.2.1 ∧ (U.2.1 = false → U = U')) → ((emb K V).foldl (evs ηc) U).2.1 = (R.foldl (evs η) U').2.1 ∧ (((emb K V).foldl (evs ηc) U).2.1 = false → (emb K V).foldl (evs ηc) U = R.foldl (evs η) U')
  | [], [], [], U, U', _, _, h => h
  | k :: K, v :: V, s :: R, U, U', hS, hA, h => by
    have hk : k = s.1 := hS.1.1
    subst hk
    have := evs_agree (k := s.1) (a := vA v) (a' := s.2) h (hA s List.mem_cons_self v hS.1)
    exact evR_agree (K := K) (V := V) (R := R) (evs ηc U (s.1, vA v)) (evs η U' s) hS.2 (fun t ht => hA t (List.mem_cons_of_mem _ ht)) this
  | [], [], _ :: _, _, _, h, _, _ => h.elim
  | [], _ :: _, _, _, _, h, _, _ => h.elim
  | _ :: _, [], _, _, _, h, _, _ => h.elim
  | _ :: _, _ :: _, [], _, _, h, _, _ => h.elim
theorem evV_agree {ns : List (List Int32)} {nr : Nat → Nat} {ηc η : Int32 → AT → Int32 × Bool} {K V : List Int32} {R : List XSt} (hS : StpL ns nr K V R) (hA : AgS ns nr ηc η R) : (evV ηc (emb K V)).2.1 = (evV η R).2.1 ∧ ((evV η R).2.1 = false → evV ηc (emb K V) = evV η R) ∧ mdF (evV ηc (emb K V)).2.1 (evV ηc (emb K V)).2.2 = mdF (evV η R).2.1 (evV η R).2.2 := by
  obtain ⟨h1, h2⟩ := evR_agree ([], false, false) ([], false, false) hS hA ⟨rfl, fun _ => rfl⟩
  have g1 : (evV ηc (emb K V)).2.1 = (evV η R).2.1 := h1
  have g2 : (evV η R).2.1 = false → evV ηc (emb K V) = evV η R := fun hz => by
    unfold evV evR
    rw [h2 (h1.trans hz)]
  refine ⟨g1, g2, ?_⟩
  cases hm : (evV η R).2.1 with
  | true => rw [g1, hm]; rfl
  | false => rw [g2 hm, hm]
theorem dpt_emb {ns : List (List Int32)} {nr : Nat → Nat} : ∀ {K V : List Int32} {R : List XSt} (d : Option Nat), StpL ns nr K V R → (emb K V).foldl dp1 d = R.foldl dp1 d
  | [], [], [], d, _ => rfl
  | k :: K, v :: V, s :: R, d, h => by
    have hk : k = s.1 := h.1.1
    subst hk
    exact dpt_emb (dp1 d s) h.2
  | [], [], _ :: _, _, h => h.elim
  | [], _ :: _, _, _, h => h.elim
  | _ :: _, [], _, _, h => h.elim
  | _ :: _, _ :: _, [], _, h => h.elim
theorem okX_emb {ns : List (List Int32)} {nr : Nat → Nat} : ∀ {K V : List Int32} {R : List XSt}, StpL ns nr K V R → okX R → okX (emb K V)
  | [], [], [], _, _ => fun s hs => by cases hs
  | k :: K, v :: V, s :: R, h, hR => by
    have hk : k = s.1 := h.1.1
    subst hk
    intro t ht
    rcases List.mem_cons.mp ht with rfl | ht
    · exact hR s List.mem_cons_self
    · exact okX_emb h.2 (fun u hu => hR u (List.mem_cons_of_mem _ hu)) t ht
  | [], [], _ :: _, h, _ => h.elim
  | [], _ :: _, _, h, _ => h.elim
  | _ :: _, [], _, h, _ => h.elim
  | _ :: _, _ :: _, [], h, _ => h.elim
theorem okX_snoc {R : List XSt} {s : XSt} (h : okX R) (hs : isOp s.1 = true ∨ (okS s.1 ∧ s.1 ≠ 40)) : okX (R ++ [s]) := fun t ht => by
  rcases List.mem_append.mp ht with z | z
  · exact h t z
  · rw [List.mem_singleton.mp z]; exact hs
theorem stl_okX {l : Nat} (hl : 1 ≤ l) : ∀ (S : List Int32) (R : List XSt), (∀ s ∈ S, okS s) → okX R → okX (stl l S R).2
  | [], R, _, h => h
  | s :: S, R, hok, h => by
    rw [stl]
    by_cases hc : levN s < l
    · rw [if_pos hc]; exact h
    · rw [if_neg hc]
      refine stl_okX hl S _ (fun t ht => hok t (List.mem_cons_of_mem _ ht)) (okX_snoc h (Or.inr ⟨hok s List.mem_cons_self, ?_⟩))
      show s ≠ 40
      intro z
      rw [z] at hc
      exact hc (show (0 : Nat) < l by omega)
theorem cmpA_okX : ∀ (n : Nat) (ts : List AT) (w : Bool) (o : Nat) (S : List Int32) (R : List XSt) (S' : List Int32) (R' : List XSt) (o' : Nat) (rest : List AT), (∀ s ∈ S, okS s) → okX R → cmpA n ts w o S R = some (S', R', o', rest) → okX R' ∧ ∀ s ∈ S', okS s := by
  intro n
  induction n with
  | zero => intro ts w o S R S' R' o' rest _ _ h; cases h
  | succ n ih =>
    intro ts w o S R S' R' o' rest hok hd h
    cases ts with
    | nil => cases w <;> cases h
    | cons a r =>
      have push : ∀ (t : Int32), okS t → ∀ s ∈ (t :: S), okS s := fun t ht s hs => by
        rcases List.mem_cons.mp hs with rfl | hs
        · exact ht
        · exact hok s hs
      cases w with
      | true =>
        rw [cmpA] at h
        by_cases c37 : a.k = 37
        · rw [if_pos c37] at h
          match r, h with
          | [], h => cases h
          | [b], h => cases h
          | b :: c :: r3, h =>
            have h' : (if b.k = 2 ∧ (b.nm = hiB ∨ b.nm = loB) ∧ c.k = 40 then cmpA n r3 true (o + 1) (40 :: (if b.nm = hiB then 12 else 13) :: S) R else none) = some (S', R', o', rest) := h
            split at h'
            · refine ih r3 true (o + 1) _ R S' R' o' rest ?_ hd h'
              intro s hs
              rcases List.mem_cons.mp hs with rfl | hs
              · exact Or.inl rfl
              · rcases List.mem_cons.mp hs with rfl | hs
                · split <;> (unfold okS; decide)
                · exact hok s hs
            · cases h'
        rw [if_neg c37] at h
        by_cases c34 : a.k = 3 ∨ a.k = 4
        · rw [if_pos c34] at h
          exact ih r false o S _ S' R' o' rest hok (okX_snoc hd (Or.inl (by show isOp 3 = true; decide))) h
        rw [if_neg c34] at h
        by_cases c2 : a.k = 2
        · rw [if_pos c2] at h
          exact ih r false o S _ S' R' o' rest hok (okX_snoc hd (Or.inl (isOp_nm a).1)) h
        rw [if_neg c2] at h
        by_cases c5 : a.k = 5
        · rw [if_pos c5] at h
          exact ih r false o S _ S' R' o' rest hok (okX_snoc hd (Or.inl (isOp_nr a).1)) h
        rw [if_neg c5] at h
        by_cases c45 : a.k = 45
        · rw [if_pos c45] at h
          exact ih r true o _ R S' R' o' rest (push 10 (by unfold okS; decide)) hd h
        rw [if_neg c45] at h
        by_cases c126 : a.k = 126
        · rw [if_pos c126] at h
          exact ih r true o _ R S' R' o' rest (push 11 (by unfold okS; decide)) hd h
        rw [if_neg c126] at h
        by_cases c40' : a.k = 40
        · rw [if_pos c40'] at h
          exact ih r true (o + 1) _ R S' R' o' rest (push 40 (Or.inl rfl)) hd h
        · rw [if_neg c40'] at h; cases h
      | false =>
        rw [cmpA] at h
        by_cases c41 : a.k = 41 ∧ 0 < o
        · rw [if_pos c41] at h
          refine ih r false (o - 1) _ _ S' R' o' rest (fun s hs => (stl_ok (l := 1) S R hok).1 s (List.mem_of_mem_tail hs)) (stl_okX (by omega) S R hok hd) h
        rw [if_neg c41] at h
        by_cases hl : 0 < levN a.k
        · rw [if_pos hl] at h
          refine ih r true o _ _ S' R' o' rest ?_ (stl_okX (by omega) S R hok hd) h
          intro s hs
          rcases List.mem_cons.mp hs with rfl | hs
          · exact lev_ok hl
          · exact (stl_ok (l := levN a.k) S R hok).1 s hs
        · rw [if_neg hl] at h
          cases h
          exact ⟨hd, hok⟩
theorem cmpT_okX {ts : List AT} {R : List XSt} {rest : List AT} (h : cmpT ts = some (R, rest)) : okX R := by
  unfold cmpT at h
  cases hc : cmpA ts.length ts true 0 [] [] with
  | none => rw [hc] at h; cases h
  | some z =>
    obtain ⟨S1, R1, o1, r1⟩ := z
    rw [hc] at h
    have h' : (if 0 < o1 then none else some ((stl 1 S1 R1).2, r1)) = some (R, rest) := h
    split at h'
    · cases h'
    · cases h'
      obtain ⟨d1, d2⟩ := cmpA_okX _ ts true 0 [] [] S1 R1 o1 rest (fun s hs => by cases hs) (fun s hs => by cases hs) hc
      exact stl_okX (by omega) S1 R1 d2 d1
/-! the program's items -/
abbrev ip (sI : CS) (x y : Nat) : Nat × Nat := (9 * sI.2.2 0 + 4 * sI.2.2 1 + x, 64 * (sI.2.2 0 + sI.2.2 1) + y)
def LOk (sI : CS) (cnt : Nat) : Prop := cnt ≤ sI.2.2 0 ∧ sI.2.2 0 ≤ sI.2.2 1 ∧ sI.2.2 0 ≤ 5000 ∧ sI.2.2 1 ≤ 10000
theorem C_Lst_new_eq {sI : CS} {cnt : Nat} (h : LOk sI cnt) (h5 : sI.2.2 0 < 5000) (x y : Nat) : RC (ip sI x y) (C_Lst_new sI) (fun _ u c => c = ip u x y ∧ u.2.2 0 = sI.2.2 0 + 1 ∧ u.2.2 0 ≤ u.2.2 1 ∧ u.2.2 1 ≤ 10000 ∧ (∀ k, k ≠ sI.2.2 0 + 1 → u.2.1 k = sI.2.1 k) ∧ u.2.1 (sI.2.2 0 + 1) = fun _ => 0) := by
  obtain ⟨h1, h2, h3, h4⟩ := h
  generalize en : sI.2.2 0 = n at *
  generalize eg : sI.2.2 1 = g at *
  have fin : ∀ g', n < g' → g' ≤ 10000 → ((lpush sI g').2.2 0 = n + 1 ∧ (lpush sI g').2.2 1 = g' ∧ (∀ k, k ≠ n + 1 → (lpush sI g').2.1 k = sI.2.1 k) ∧ (lpush sI g').2.1 (n + 1) = fun _ => 0) := by
    intro g' _ _
    refine ⟨?_, ?_, fun k hk => ?_, ?_⟩
    · show sI.2.2 0 + 1 = _; rw [en]
    · rfl
    · show (if k = sI.2.2 0 + 1 then _ else _) = _
      rw [en, if_neg hk]
    · show (if n + 1 = sI.2.2 0 + 1 then _ else _) = _
      rw [en, if_pos rfl]
  unfold C_Lst_new C_Lst_add C_Lst_room
  rw [en, eg, gd_t (by rw [nI_clamp (by omega)]; simp)]
  by_cases hng : n = g
  · rw [if_pos (by rw [hng])]
    have ecap : ∃ g', C_Lst_cap n g = some (nI g') ∧ n < g' ∧ g' ≤ 10000 ∧ 4 * g ≤ 3 * g' ∧ g + 1 ≤ g' := by
      unfold C_Lst_cap
      by_cases hg0 : g = 0
      · rw [if_neg (by rw [hg0]; decide), gd_t (decide_eq_true hg0), gd_t (by simp <;> omega)]
        exact ⟨10, rfl, by omega, by omega, by omega, by omega⟩
      · rw [if_pos (by rw [show (0 : Int32) = nI 0 from rfl, nI_ltI (by omega) (by omega)]; omega)]
        have e1 : nI n + 1 - nI g = nI 1 := by rw [nI_1, pk_sub (by omega)]; congr 1; omega
        have e2 : nI g >>> ((1 : Int32) &&& 31) = nI (g / 2) := by rw [nI_shr (k := 1) (by omega) (by decide)]
        unfold C_Asp_newLength
        rw [e1, e2, jmax_nI (by omega) (by omega), nI_add]
        have hm : max 1 (g / 2) ≤ 2501 := by omega
        have hm1 : 1 ≤ max 1 (g / 2) := by omega
        have hm2 : g / 2 ≤ max 1 (g / 2) := by omega
        rw [if_neg (by rw [show (0 : Int32) = nI 0 from rfl, nI_leI (by omega) (by omega)]; omega), if_neg (by rw [show (2147483639 : Int32) = nI 2147483639 from rfl, nI_ltI (by omega) (by omega)]; omega)]
        simp only [cr, Option.bind_some]
        rw [gd_t (by simp [nI_pos (show g + max 1 (g / 2) < 2 ^ 31 by omega)]), nI_clamp (by omega), gd_t (by simp <;> omega), jmin_nI (by omega) (by omega), Nat.min_eq_left (by omega), gd_t (by simp [nI_pos (show g < 2 ^ 31 by omega)]), nI_clamp (by omega), gd_t (by simp), gd_t (by simp <;> omega), gd_t (by simp <;> omega)]
        exact ⟨g + max 1 (g / 2), rfl, by omega, by omega, by omega, by omega⟩
    obtain ⟨g', c1, c2, c3, c4, c5⟩ := ecap
    rw [c1]
    simp only [cr, Option.bind_some]
    rw [nI_clamp (by omega), gd_t (inB_nI c2 (by omega))]
    simp only [Option.bind_some]
    rw [gd_t (by simp <;> omega)]
    obtain ⟨f1, f2, f3, f4⟩ := fin g' c2 c3
    refine ⟨1, lpush sI g', 1 + 1, g' + 9, _, rfl, ?_, rfl, f1, by omega, by omega, f3, f4⟩
    unfold CostP ip
    rw [f1, f2, en, eg]
    refine ⟨?_, ?_⟩
    · show g' + 9 + (9 * n + 4 * g + x) ≤ 9 * (n + 1) + 4 * g' + x; omega
    · show 64 * (1 + 1) + (64 * (n + g) + y) ≤ 64 * (n + 1 + g') + y; omega
  · rw [if_neg (by rw [nI_eq (by omega) (by omega)]; exact hng), gd_t (by simp <;> omega), gd_t (inB_nI (by omega) (by omega))]
    simp only [cr, Option.bind_some]
    rw [gd_t (by simp <;> omega)]
    obtain ⟨f1, f2, f3, f4⟩ := fin g (by omega) h4
    refine ⟨1, lpush sI g, 0 + 1, 0 + 9, _, rfl, ?_, rfl, f1, by omega, by omega, f3, f4⟩
    unfold CostP ip
    rw [f1, f2, en, eg]
    refine ⟨?_, ?_⟩
    · show 0 + 9 + (9 * n + 4 * g + x) ≤ 9 * (n + 1) + 4 * g + x; omega
    · show 64 * (0 + 1) + (64 * (n + g) + y) ≤ 64 * (n + 1 + g) + y; omega
/-- a new item's fields -/
def nwI (sP : CS) (mk w len : Int32) : Nat → Int32 := fun j => if j = 0 then sP.1 4 else if j = 1 then sP.1 5 else if j = 2 then mk else if j = 3 then w else if j = 4 then len else if j = 6 then sP.1 6 else 0
def nwP (f : Nat → Int32) (sP : CS) (mk w len : Int32) : Nat → Int32 := fun j => if j < 9 then nwI sP mk w len j else f j
theorem C_padd29 {sP sI : CS} {cnt : Nat} (hc : sP.1 1 = nI cnt) (h : LOk sI (cnt + 1)) (hb : isB (sP.1 5) = true) (mk w len : Int32) : ∃ sI', C_Prg_add_29 mk w len sP sI = some ((cnt + 1, (cF sP 1 (nI (cnt + 1)), sI')), (0, 0)) ∧ sI'.2.2 = sI.2.2 ∧ (∀ k, k ≠ cnt + 1 → sI'.2.1 k = sI.2.1 k) ∧ ∀ j, j < 9 → sI'.2.1 (cnt + 1) j = nwI sP mk w len j := by
  obtain ⟨h1, h2, h3, h4⟩ := h
  unfold C_Prg_add_29 C_Lst_get
  rw [hc, gd_t (by simp <;> omega), gd_t (by simp [nI_pos (show cnt < 2 ^ 31 by omega)]), gd_t (by rw [decide_eq_true_eq, nI_ltI (by omega) (by omega)]; omega), gd_t (inB_nI (by omega) (by omega)), nI_clamp (by omega), gd_t (by simp <;> omega)]
  simp only [cr, Option.bind_some, bnd]
  have hin : decide (cnt + 1 < sI.2.2 0 + 1) = true := by simp; omega
  have e2 : ∀ (σ : CS) (k i : Nat) (v : Int32), (cA σ k i v).2.2 = σ.2.2 := fun _ _ _ _ => rfl
  simp only [e2]
  rw [hin, nI_1]
  have hb' : isB ((cF sP 1 (nI (cnt + 1))).1 5) = true := hb
  simp only [gd_t, hb']
  refine ⟨_, rfl, rfl, fun k hk => ?_, fun j hj => ?_⟩
  · unfold cA
    simp only []
    simp only [if_neg hk]
  · unfold cA
    simp only [if_true]
    unfold nwI
    have up : ∀ (f : Nat → Int32) (a : Nat) (v : Int32) (i : Nat), upd f a v i = if i = a then v else f i := fun _ _ _ _ => rfl
    simp only [up]
    rcases (show j = 0 ∨ j = 1 ∨ j = 2 ∨ j = 3 ∨ j = 4 ∨ j = 5 ∨ j = 6 ∨ j = 7 ∨ j = 8 by omega) with rfl | rfl | rfl | rfl | rfl | rfl | rfl | rfl | rfl <;> rfl
theorem RC_padd {sP sI : CS} {cnt : Nat} (hc : sP.1 1 = nI cnt) (h : LOk sI cnt) (h5 : cnt < 5000) (hb : isB (sP.1 5) = true) (mk w len : Int32) (x y : Nat) : RC (ip sI x y) (C_Prg_add mk w len sP sI) (fun r u c => r = cnt + 1 ∧ u.1 = cF sP 1 (nI (cnt + 1)) ∧ LOk u.2 (cnt + 1) ∧ c = ip u.2 x y ∧ (∀ k, k ≠ cnt + 1 → u.2.2.1 k = sI.2.1 k) ∧ ∀ j, j < 9 → u.2.2.1 (cnt + 1) j = nwI sP mk w len j) := by
  obtain ⟨h1, h2, h3, h4⟩ := id h
  unfold C_Prg_add
  rw [hc]
  by_cases hlt : cnt < sI.2.2 0
  · refine RC_y (by rw [nI_ltI (by omega) (by omega)]; exact hlt) ?_
    obtain ⟨sI', e1, e2, e3, e4⟩ := C_padd29 hc (sI := sI) ⟨by omega, h2, h3, h4⟩ hb mk w len
    rw [e1]
    exact RC_ret ⟨rfl, rfl, ⟨by show cnt + 1 ≤ sI'.2.2 0; rw [e2]; omega, by show sI'.2.2 0 ≤ sI'.2.2 1; rw [e2]; omega, by show sI'.2.2 0 ≤ 5000; rw [e2]; omega, by show sI'.2.2 1 ≤ 10000; rw [e2]; omega⟩, by show ip sI x y = ip sI' x y; unfold ip; rw [e2], e3, e4⟩
  · refine RC_n (by rw [nI_ltI (by omega) (by omega)]; exact hlt) ?_
    refine RC_then (C_Lst_new_eq h (by omega) x y) (fun _ u c hu => ?_)
    obtain ⟨rfl, u1, u2, u3, u4, u5⟩ := hu
    have ecn : sI.2.2 0 = cnt := by omega
    rw [ecn] at u1 u4 u5
    obtain ⟨sI', e1, e2, e3, e4⟩ := C_padd29 hc (sI := u) ⟨by omega, u2, by omega, u3⟩ hb mk w len
    rw [e1]
    exact RC_ret ⟨rfl, rfl, ⟨by show cnt + 1 ≤ sI'.2.2 0; rw [e2]; omega, by show sI'.2.2 0 ≤ sI'.2.2 1; rw [e2]; omega, by show sI'.2.2 0 ≤ 5000; rw [e2]; omega, by show sI'.2.2 1 ≤ 10000; rw [e2]; omega⟩, by show ip u x y = ip sI' x y; unfold ip; rw [e2], fun k hk => (e3 k hk).trans (u4 k hk), e4⟩
/-- which item a number means; 0: none -/
def fnI (cnt : Nat) (z : Int32) : Nat := if z < 0 then 0 else if cnt ≤ z.toNatClampNeg then 0 else z.toNatClampNeg + 1
def adrC (sP sI : CS) (cnt : Nat) (z : Int32) : Int32 := if fnI cnt z = 0 then 0 else if sI.2.1 (fnI cnt z) 1 = 0 then sI.2.1 (fnI cnt z) 5 else sP.1 3 + sI.2.1 (fnI cnt z) 5
theorem fnI_nI {cnt k : Nat} (hk : k < cnt) (h : cnt < 2 ^ 31) : fnI cnt (nI k) = k + 1 := by
  unfold fnI
  rw [if_neg (nI_pos (by omega)), nI_clamp (by omega), if_neg (by omega)]
theorem C_find {sP sI : CS} {cnt : Nat} (hc : sP.1 1 = nI cnt) (h : LOk sI cnt) (z : Int32) : C_Prg_find z sP sI = some (fnI cnt z) ∧ fnI cnt z < sI.2.2 0 + 1 := by
  obtain ⟨h1, h2, h3, h4⟩ := h
  unfold C_Prg_find C_Prg_find_37 C_Prg_find_41 fnI
  by_cases hz : z < 0
  · rw [if_pos hz, if_pos hz]; exact ⟨rfl, by omega⟩
  · rw [if_neg hz, if_neg hz, hc]
    obtain ⟨k, hk, rfl⟩ := nI_ofNeg hz
    rw [nI_clamp hk]
    by_cases hle : cnt ≤ k
    · rw [if_pos (by rw [nI_leI (by omega) hk]; exact hle), if_pos hle]; exact ⟨rfl, by omega⟩
    · rw [if_neg (by rw [nI_leI (by omega) hk]; exact hle), if_neg hle, if_neg (by rw [nI_leI (by omega) hk]; omega)]
      unfold C_Lst_get
      rw [gd_t (by simp <;> omega), gd_t (by simp [nI_pos hk]), gd_t (by rw [decide_eq_true_eq, nI_ltI hk (by omega)]; omega), gd_t (inB_nI (by omega) (by omega)), nI_clamp hk, gd_t (by simp <;> omega)]
      simp only [cr, Option.bind_some]
      rw [gd_t (by simp <;> omega)]
      exact ⟨rfl, by omega⟩
theorem C_addr {sP sI : CS} {cnt : Nat} (hc : sP.1 1 = nI cnt) (h : LOk sI cnt) (z : Int32) : C_Prg_addressOf z sP sI = some (adrC sP sI cnt z) := by
  obtain ⟨h1, h2, h3, h4⟩ := h
  unfold C_Prg_addressOf C_Prg_addressOf_23 C_Prg_addressOf_60 adrC fnI
  by_cases hz : z < 0
  · rw [if_pos hz, if_pos hz, if_pos rfl]
  · rw [if_neg hz, if_neg hz, hc]
    obtain ⟨k, hk, rfl⟩ := nI_ofNeg hz
    rw [nI_clamp hk]
    by_cases hle : cnt ≤ k
    · rw [if_pos (by rw [nI_leI (by omega) hk]; exact hle), if_pos hle, if_pos rfl]
    · rw [if_neg (by rw [nI_leI (by omega) hk]; exact hle), if_neg hle, if_pos (by rw [nI_ltI hk (by omega)]; omega), if_neg (by omega)]
      unfold C_Lst_get
      rw [gd_t (by simp <;> omega), gd_t (by simp [nI_pos hk]), gd_t (by rw [decide_eq_true_eq, nI_ltI hk (by omega)]; omega), gd_t (inB_nI (by omega) (by omega)), nI_clamp hk, gd_t (by simp <;> omega)]
      simp only [cr, Option.bind_some]
      have hin : decide (k + 1 < sI.2.2 0 + 1) = true := by simp; omega
      rw [gd_t hin, gd_t hin]
      by_cases h0 : sI.2.1 (k + 1) 1 = 0
      · rw [if_pos h0, if_pos h0, gd_t hin]
      · rw [if_neg h0, if_neg h0, gd_t hin]
