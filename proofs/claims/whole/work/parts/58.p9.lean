def All2 {α β : Type} (R : α → β → Prop) : List α → List β → Prop
  | [], [] => True
  | a :: l, b :: m => R a b ∧ All2 R l m
  | _, _ => False
theorem All2.imp {α β : Type} {R S : α → β → Prop} (h : ∀ a b, R a b → S a b) : ∀ {l : List α} {m : List β}, All2 R l m → All2 S l m
  | [], [], _ => trivial
  | _ :: _, _ :: _, ⟨h1, h2⟩ => ⟨h _ _ h1, All2.imp h h2⟩
  | [], _ :: _, h => h.elim
  | _ :: _, [], h => h.elim
theorem All2.len {α β : Type} {R : α → β → Prop} : ∀ {l : List α} {m : List β}, All2 R l m → l.length = m.length
  | [], [], _ => rfl
  | _ :: _, _ :: _, ⟨_, h2⟩ => by simp [h2.len]
  | [], _ :: _, h => h.elim
  | _ :: _, [], h => h.elim
def LexPost (sY sN sT : CS) (X Y : List Int32) (ns : List (List Int32)) (so va op re od : List Int32) (L : List (Int32 × Int32 × Int32)) (c p : Nat) (r : Option ((Int32 × (CS × CS × CS × CS)) × (Nat × Nat))) : Prop :=
  ∃ sL' sY' sN' sT' Z ms so' va' L' c' dc ds, r = some ((0, (sL', sY', sN', sT')), (dc, ds)) ∧ RowL sY' (Y ++ Z) ∧ NamL sN' (ns ++ ms) [] (so ++ so') (va ++ va') op re od ∧ (∀ x ∈ so', x = 0) ∧ (∀ x ∈ va', x = 0) ∧ (ms.length ≤ X.length - p ∧ ∀ nm ∈ ms, ∀ x ∈ nm, isPl x = true) ∧ ms.flatten.length ≤ X.length - p ∧ TokL sT' (L ++ L') c' ∧ All2 (TR (ns ++ ms) (Y ++ Z)) (lexS X p) L' ∧ sT'.1 2 = sT.1 2 ∧ (∀ j, 1 ≤ j → j < 100 → sN'.1 j = sN.1 j) ∧ ds + 6 * c + 2 * capN sN + 2 * sY.2.2 0 ≤ 6 * c' + 2 * capN sN' + 2 * sY'.2.2 0 ∧ 64 * dc + 3 * c + capN sN + sY.2.2 0 ≤ 3 * c' + capN sN' + sY'.2.2 0
theorem TR_endA (ns : List (List Int32)) (Y : List Int32) (p : Nat) : TR ns Y (endA p) (0, 0, 0) := ⟨rfl, fun z => absurd z (show (0 : Int32) ≠ 2 by decide), fun z => absurd z (show ¬ ((0 : Int32) = 3 ∨ (0 : Int32) = 4 ∨ (0 : Int32) = 5) by decide), fun z => absurd z (show (0 : Int32) ≠ 6 by decide)⟩
theorem TR_badA (ns : List (List Int32)) (Y : List Int32) (p : Nat) : TR ns Y (badA p) (1, 0, 0) := ⟨rfl, fun z => absurd z (show (1 : Int32) ≠ 2 by decide), fun z => absurd z (show ¬ ((1 : Int32) = 3 ∨ (1 : Int32) = 4 ∨ (1 : Int32) = 5) by decide), fun z => absurd z (show (1 : Int32) ≠ 6 by decide)⟩
theorem C_Lex_readAll_30_eq {sX : CS} {X : List Int32} (hX : RowL sX X) (hV : ∀ c ∈ X, okT c) {op re od : List Int32} (N : Nat) : ∀ (m p x : Nat) (sL sY sN sT : CS) (Y : List Int32) (ns : List (List Int32)) (so va : List Int32) (L : List (Int32 × Int32 × Int32)) (c : Nat), sL.1 0 = nI p → p ≤ X.length → X.length - p < m → X.length - p ≤ x → x < 2 ^ 30 → RowL sY Y → NamL sN ns [] so va op re od → TokL sT L c → X.length < N → ns.length + (X.length - p) < N → 2 * (L.length + (X.length - p) + 2) + 64 ≤ 140000 → 2 * (ns.flatten.length + (X.length - p) + 31) + 64 ≤ 140000 → 2 * (ns.length + (X.length - p)) + 66 ≤ 140000 → 2 * (Y.length + (X.length - p) + 1) + 64 ≤ 140000 → LexPost sY sN sT X Y ns so va op re od L c p (C_Lex_readAll_30 N m 1 (nI x) sL sX sY sN sT) := by
  have hx1 := hX.cap; have hx2 := hX.big
  intro m
  induction m with
  | zero => intro p x sL sY sN sT Y ns so va L c _ _ h; omega
  | succ m ih =>
    intro p x sL sY sN sT Y ns so va L c hat hp hm hxx hx3 hY hNm hT hN1 hN2 hl hf1 hf2 hfY
    have fin : p = X.length → LexPost sY sN sT X Y ns so va op re od L c p (C_Lex_readAll_63 N 1 sL sX sY sN sT) := by
      intro e
      obtain ⟨sT', c', dc, ds, e1, h4, h5, h6, h7, -⟩ := C_Tok_add_eq hT (by omega) 0 0 0
      refine ⟨sL, sY, sN, sT', [], [], [], [], [(0, 0, 0)], c', dc, ds, ?_, by simpa using hY, by simpa using hNm, by simp, by simp, ⟨by simp, fun nm hm => by cases hm⟩, by simp, h4, ?_, h5, fun j _ _ => rfl, by omega, by omega⟩
      · unfold C_Lex_readAll_63 C_Lex_readAll_77
        rw [if_neg (by decide)]
        exact ct0 e1 rfl
      · rw [lexS, dif_neg (by omega)]
        exact ⟨TR_endA _ _ _, trivial⟩
    rw [C_Lex_readAll_30]
    show LexPost sY sN sT X Y ns so va op re od L c p (if nI x ≤ 0 then _ else _)
    by_cases hpn : p = X.length
    · split
      · exact fin hpn
      · rw [if_neg (by decide), hX.cnt, hat, if_pos (by rw [nI_leI (by omega) (by omega)]; omega)]
        exact fin hpn
    · have hq : p < X.length := by omega
      rw [if_neg (by rw [show (0 : Int32) = nI 0 from rfl, nI_leI (by omega) (by omega)]; omega), if_neg (by decide), hX.cnt, hat, if_neg (by rw [nI_leI (by omega) (by omega)]; omega)]
      have ec : nI x + -1 = nI (x - 1) := by
        obtain ⟨x', rfl⟩ : ∃ x', x = x' + 1 := ⟨x - 1, by omega⟩
        exact pk_m1 x'
      rw [ec]
      obtain ⟨t1, t2, t3⟩ := C_Lex_readToken_eq (sL := sL) hX hV hY hT (by omega) (N := N) hq hat hN1 (by omega) hNm ⟨by omega, by omega⟩ (by omega)
      by_cases hb : X.getD p 0 = 32 ∨ X.getD p 0 = 9
      · have := ih (p + 1) (x - 1) (cF sL 0 (nI (p + 1))) sY sN sT Y ns so va L c (cF_at _ _ _) (by omega) (by omega) (by omega) (by omega) hY hNm hT hN1 (by omega) (by omega) (by omega) (by omega) (by omega)
        obtain ⟨sL', sY', sN', sT', Z, ms, so', va', L', c', dc, ds, e, q1, q2, q3, q4, q5, q6, q7, q8, q9, q10, q11, q12⟩ := this
        refine ⟨sL', sY', sN', sT', Z, ms, so', va', L', c', 0 + dc, 0 + ds, ct1 (t1 hb) e, q1, q2, q3, q4, ⟨by have := q5.1; omega, q5.2⟩, by omega, q7, ?_, q9, q10, by omega, by omega⟩
        rw [lexS, dif_pos hq, if_pos hb]
        exact q8
      · by_cases h35 : X.getD p 0 = 35
        · have hlg : p + 1 ≤ lend (tw X) X.length p := by
            rw [lend, dif_pos ⟨hq, by show X.getD p 0 ≠ 10; rw [h35]; decide⟩]
            exact lend_ge _ _ _
          have hll := lend_le (tw X) X.length p (by omega)
          have := ih (lend (tw X) X.length p) (x - 1) (cF sL 0 (nI (lend (tw X) X.length p))) sY sN sT Y ns so va L c (cF_at _ _ _) (by omega) (by omega) (by omega) (by omega) hY hNm hT hN1 (by omega) (by omega) (by omega) (by omega) (by omega)
          obtain ⟨sL', sY', sN', sT', Z, ms, so', va', L', c', dc, ds, e, q1, q2, q3, q4, q5, q6, q7, q8, q9, q10, q11, q12⟩ := this
          refine ⟨sL', sY', sN', sT', Z, ms, so', va', L', c', 0 + dc, 0 + ds, ct1 (t2 h35) e, q1, q2, q3, q4, ⟨by have := q5.1; omega, q5.2⟩, by omega, q7, ?_, q9, q10, by omega, by omega⟩
          rw [lexS, dif_pos hq, if_neg hb, if_pos h35, Nat.max_eq_left hlg]
          exact q8
        · have tp := t3 hb h35
          cases htk : tokC X p with
          | none =>
            rw [htk] at tp
            obtain ⟨sL', sY', Z, dc, ds, e, r1, ⟨k1, k2⟩⟩ := tp
            obtain ⟨sT', c', d2, e2, e1, h4, h5, h6, h7, -⟩ := C_Tok_add_eq hT (by omega) 1 0 0
            obtain ⟨sT'', c'', d3, e3, e4, h4', h5', h6', h7', -⟩ := C_Tok_add_eq h4 (by simp; omega) 0 0 0
            obtain ⟨m', rfl⟩ : ∃ m', m = m' + 1 := ⟨m - 1, by omega⟩
            refine ⟨sL', sY', sN, sT'', Z, [], [], [], [(1, 0, 0), (0, 0, 0)], c'', dc + (d2 + d3), ds + (e2 + e3), ct1 e ?_, r1, by simpa using hNm, by simp, by simp, ⟨by simp, fun nm hm => by cases hm⟩, by simp, by simpa using h4', ?_, by rw [h5', h5], fun j _ _ => rfl, by omega, by omega⟩
            · rw [C_Lex_readAll_30]
              show (if nI (x - 1) ≤ 0 then _ else _) = _
              have f0 : C_Lex_readAll_63 N 0 sL' sX sY' sN sT = some ((0, (sL', sY', sN, sT'')), (d2 + d3, e2 + e3)) := by
                unfold C_Lex_readAll_63 C_Lex_readAll_77
                rw [if_pos rfl]
                exact ct1 e1 (ct0 e4 rfl)
              split
              · exact f0
              · rw [if_pos rfl]; exact f0
            · rw [lexS, dif_pos hq, if_neg hb, if_neg h35, htk]
              exact ⟨TR_badA _ _ _, TR_endA _ _ _, trivial⟩
          | some a =>
            rw [htk] at tp
            obtain ⟨g1, g2, g3, g4⟩ := tokC_e hq htk
            obtain ⟨sY', sN', sT', ms, so', va', Z, t, c', dc, ds, e, r1, z1, n1, ⟨m1, mp⟩, m2, s1, v1, tk, tr, tt, fj, k1, k2⟩ := tp
            have hfl : (ns ++ ms).flatten.length = ns.flatten.length + ms.flatten.length := by simp
            have hln : (ns ++ ms).length = ns.length + ms.length := by simp
            have hLl : (L ++ [t]).length = L.length + 1 := by simp
            have hYl : (Y ++ Z).length = Y.length + Z.length := by simp
            have := ih a.e (x - 1) (cF sL 0 (nI a.e)) sY' sN' sT' (Y ++ Z) (ns ++ ms) (so ++ so') (va ++ va') (L ++ [t]) c' (cF_at _ _ _) g2 (by omega) (by omega) (by omega) r1 n1 tk hN1 (by omega) (by omega) (by omega) (by omega) (by omega)
            obtain ⟨sL'', sY'', sN'', sT'', Z2, ms2, so2, va2, L2, c2, dc2, ds2, e2, q1, q2, q3, q4, ⟨q5, qp⟩, q6, q7, q8, q9, q10, q11, q12⟩ := this
            refine ⟨sL'', sY'', sN'', sT'', Z ++ Z2, ms ++ ms2, so' ++ so2, va' ++ va2, t :: L2, c2, dc + dc2, ds + ds2, ct1 e e2, by simpa using q1, by simpa using q2, ?_, ?_, ?_, ?_, by simpa using q7, ?_, by rw [q9, tt], fun j j1 j2 => by rw [q10 j j1 j2, fj j j1 j2], by omega, by omega⟩
            · intro y hy; rcases List.mem_append.mp hy with h | h; exact s1 y h; exact q3 y h
            · intro y hy; rcases List.mem_append.mp hy with h | h; exact v1 y h; exact q4 y h
            · refine ⟨by simp; omega, fun nm hm => ?_⟩
              rcases List.mem_append.mp hm with h | h
              · exact mp nm h
              · exact qp nm h
            · simp only [List.flatten_append, List.length_append]; omega
            · rw [lexS, dif_pos hq, if_neg hb, if_neg h35, htk]
              simp only [g1, dite_true]
              refine ⟨?_, by simpa using q8⟩
              have := tr.more ms2 Z2
              simpa using this

/-- the tokens of the text, after readAll() -/
theorem C_Lex_readAll_eq {sX sL sY sN sT : CS} {X Y0 : List Int32} (hX : RowL sX X) (hV : ∀ c ∈ X, okT c) {ns : List (List Int32)} {so va op re od : List Int32} {L0 : List (Int32 × Int32 × Int32)} {c N : Nat} (hY : RowL sY Y0) (hNm : NamL sN ns [] so va op re od) (hT : TokL sT L0 c) (hn : X.length ≤ 4096) (hN : ns.length + X.length + 1 < N) (hf1 : ns.flatten.length ≤ 60000) (hf2 : ns.length ≤ 60000) : ∃ sT0, C_Tok_empty sT = some (0, sT0) ∧ ∃ sY0, C_Row_cut 0 sY = some (0, sY0) ∧ sY0.2.2 = sY.2.2 ∧ sT0.1 2 = 0 ∧ LexPost sY0 sN sT0 X [] ns so va op re od [] c 0 (C_Lex_readAll N sL sX sY sN sT) := by
  have e1 : C_Tok_empty sT = some (0, cF (cF (cF sT 0 0) 1 0) 2 0) := rfl
  obtain ⟨sY0, e2, r2, c2⟩ := C_Row_cut_eq hY 0 (by omega)
  simp only [List.take_zero] at r2
  have hT0 : TokL (cF (cF (cF sT 0 0) 1 0) 2 0) [] c := ⟨rfl, rfl, by simp, hT.big, hT.c0, hT.c1, hT.c2, fun k h => absurd h (Nat.not_lt_zero k), fun k h => absurd h (Nat.not_lt_zero k), fun k h => absurd h (Nat.not_lt_zero k)⟩
  refine ⟨_, e1, sY0, e2, c2, rfl, ?_⟩
  unfold C_Lex_readAll
  rw [e1]
  simp only [cl, Option.bind_some, bnd]
  rw [show (0 : Int32) = nI 0 from rfl] at *
  rw [e2]
  simp only [Option.bind_some]
  rw [hX.cnt]
  exact C_Lex_readAll_30_eq hX hV N N 0 X.length (cF sL 0 (nI 0)) sY0 sN _ [] ns so va [] c (cF_at _ _ _) (by omega) (by omega) (by omega) (by omega) r2 hNm hT0 (by omega) (by omega) (by simp; omega) (by omega) (by omega) (by simp; omega)
