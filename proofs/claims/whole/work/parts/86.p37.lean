/-! ===== data: numbers and strings ===== -/
theorem cmpA_len : ∀ (n : Nat) (ts : List AT) (w : Bool) (o : Nat) (S : List Int32) (R : List XSt) (S' : List Int32) (R' : List XSt) (o' : Nat) (rest : List AT), cmpA n ts w o S R = some (S', R', o', rest) → rest.length ≤ ts.length ∧ (w = true → rest.length < ts.length)
  | 0, ts, w, o, S, R, S', R', o', rest, h => by cases ts <;> cases w <;> cases h
  | n + 1, [], w, o, S, R, S', R', o', rest, h => by cases w <;> cases h
  | n + 1, a :: r, true, o, S, R, S', R', o', rest, h => by
    have ih := fun (ts : List AT) (w : Bool) (o : Nat) (S : List Int32) (R : List XSt) (hh : cmpA n ts w o S R = some (S', R', o', rest)) => (cmpA_len n ts w o S R S' R' o' rest hh).1
    rw [cmpA] at h
    have fin : rest.length ≤ r.length → rest.length ≤ (a :: r).length ∧ (true = true → rest.length < (a :: r).length) := by
      intro q
      simp only [List.length_cons]
      omega
    by_cases c37 : a.k = 37
    · rw [if_pos c37] at h
      match r, h with
      | [], h => cases h
      | [_], h => cases h
      | b :: c :: r', h =>
        have h' : (if AT.k b = 2 ∧ (AT.nm b = hiB ∨ AT.nm b = loB) ∧ AT.k c = 40 then cmpA n r' true (o + 1) (40 :: (if AT.nm b = hiB then 12 else 13) :: S) R else none) = some (S', R', o', rest) := h
        by_cases q : AT.k b = 2 ∧ (AT.nm b = hiB ∨ AT.nm b = loB) ∧ AT.k c = 40
        · rw [if_pos q] at h'
          have := ih _ _ _ _ _ h'
          simp only [List.length_cons]
          omega
        · rw [if_neg q] at h'; cases h'
    rw [if_neg c37] at h
    by_cases c3 : a.k = 3 ∨ a.k = 4
    · rw [if_pos c3] at h; exact fin (ih _ _ _ _ _ h)
    rw [if_neg c3] at h
    by_cases c2 : a.k = 2
    · rw [if_pos c2] at h; exact fin (ih _ _ _ _ _ h)
    rw [if_neg c2] at h
    by_cases c5 : a.k = 5
    · rw [if_pos c5] at h; exact fin (ih _ _ _ _ _ h)
    rw [if_neg c5] at h
    by_cases c45 : a.k = 45
    · rw [if_pos c45] at h; exact fin (ih _ _ _ _ _ h)
    rw [if_neg c45] at h
    by_cases c126 : a.k = 126
    · rw [if_pos c126] at h; exact fin (ih _ _ _ _ _ h)
    rw [if_neg c126] at h
    by_cases c40 : a.k = 40
    · rw [if_pos c40] at h; exact fin (ih _ _ _ _ _ h)
    rw [if_neg c40] at h
    cases h
  | n + 1, a :: r, false, o, S, R, S', R', o', rest, h => by
    have ih := fun (ts : List AT) (w : Bool) (o : Nat) (S : List Int32) (R : List XSt) (hh : cmpA n ts w o S R = some (S', R', o', rest)) => (cmpA_len n ts w o S R S' R' o' rest hh).1
    rw [cmpA] at h
    refine ⟨?_, fun z => by cases z⟩
    by_cases c41 : a.k = 41 ∧ 0 < o
    · rw [if_pos c41] at h
      have := ih _ _ _ _ _ h
      simp only [List.length_cons]; omega
    rw [if_neg c41] at h
    by_cases cl : 0 < levN a.k
    · rw [if_pos cl] at h
      have := ih _ _ _ _ _ h
      simp only [List.length_cons]; omega
    rw [if_neg cl] at h
    cases h
    exact Nat.le_refl _
theorem cmpT_len {ts : List AT} {R : List XSt} {rest : List AT} (h : cmpT ts = some (R, rest)) : rest.length < ts.length := by
  unfold cmpT at h
  cases hc : cmpA ts.length ts true 0 [] [] with
  | none => rw [hc] at h; cases h
  | some x =>
    obtain ⟨S', R', o', rest'⟩ := x
    rw [hc] at h
    have h' : (if 0 < o' then none else some ((stl 1 S' R').2, rest')) = some (R, rest) := h
    by_cases q : 0 < o'
    · rw [if_pos q] at h'; cases h'
    · rw [if_neg q] at h'
      cases h'
      exact (cmpA_len _ _ _ _ _ _ _ _ _ _ hc).2 rfl
theorem tk1_some {c : Int32} {ts : List AT} {a : AT} {r : List AT} (h : tk1 c ts = some (a, r)) : ts = a :: r ∧ a.k = c := by
  cases ts with
  | nil => cases h
  | cons b s =>
    have h' : (if b.k = c then some (b, s) else none) = some (a, r) := h
    by_cases q : b.k = c
    · rw [if_pos q] at h'; cases h'; exact ⟨rfl, q⟩
    · rw [if_neg q] at h'; cases h'
/-- a string's token -/
theorem tokC_6 {X : List Int32} {q : Nat} {a : AT} (h : tokC X q = some a) (hk : a.k = 6) : strS (tw X) X.length (q + 1) = some (a.s, a.e - 1) ∧ 1 ≤ a.e ∧ a.p = q := by
  unfold tokC at h
  simp only [] at h
  by_cases hd : isDg (tw X q) = true
  · rw [if_pos hd] at h
    exfalso
    unfold numC at h
    split at h
    · cases h; exact absurd hk (by show ¬ (5 : Int32) = 6; decide)
    · split at h
      · cases h
        revert hk
        simp only [AT.k]
        split <;> decide
      · cases h
  rw [if_neg hd] at h
  by_cases hp : isPl (tw X q) = true
  · rw [if_pos hp] at h
    exfalso
    split at h
    · cases h
    · cases h; exact absurd hk (by show ¬ (2 : Int32) = 6; decide)
  rw [if_neg hp] at h
  by_cases h39 : tw X q = 39
  · rw [if_pos h39] at h
    exfalso
    unfold chrC at h
    split at h
    · cases h; exact absurd hk (by show ¬ (3 : Int32) = 6; decide)
    · cases h
  rw [if_neg h39] at h
  by_cases h34 : tw X q = 34
  · rw [if_pos h34] at h
    cases hs : strS (tw X) X.length (q + 1) with
    | none => rw [hs] at h; cases h
    | some t =>
      rw [hs] at h
      cases h
      exact ⟨rfl, by show 1 ≤ t.2 + 1; omega, rfl⟩
  rw [if_neg h34] at h
  exfalso
  unfold sgnC at h
  simp only [] at h
  split at h
  · cases h; exact absurd hk (by show ¬ (0 : Int32) = 6; decide)
  · split at h
    · rename_i h6
      split at h
      · cases h
        rcases h6 with z | z
        · have : (60 : Int32) = 6 := z.symm.trans hk; exact absurd this (by decide)
        · have : (62 : Int32) = 6 := z.symm.trans hk; exact absurd this (by decide)
      · cases h
    · split at h
      · rename_i hs
        cases h
        have hs' : tw X q = 6 := hk
        simp only [isSg, decide_eq_true_eq] at hs
        rw [hs'] at hs
        revert hs
        decide
      · cases h
theorem lexS_6 {X : List Int32} {q : Nat} {a : AT} {r : List AT} (hl : lexS X q = a :: r) (hk : a.k = 6) : strS (tw X) X.length (a.p + 1) = some (a.s, a.e - 1) ∧ 1 ≤ a.e := by
  induction h : X.length - q using Nat.strongRecOn generalizing q with
  | _ n ih =>
    rw [lexS] at hl
    split at hl
    · rename_i hq
      split at hl
      · exact ih (X.length - (q + 1)) (by omega) hl rfl
      · split at hl
        · exact ih _ (by omega) hl rfl
        · split at hl
          · cases hl; exact absurd hk (by show ¬ (1 : Int32) = 6; decide)
          · rename_i b hb
            obtain ⟨g1, g2, g3, g4⟩ := tokC_e hq hb
            rw [dif_pos g1] at hl
            injection hl with e1 e2
            subst e1
            obtain ⟨f1, f2, f3⟩ := tokC_6 hb hk
            rw [f3]
            exact ⟨f1, f2⟩
    · cases hl; exact absurd hk (by show ¬ (0 : Int32) = 6; decide)
section
variable {N : Nat} {X : List Int32} {σ0 : MS} {Λ : List Lb} {ln cur start : Nat}
/-- the letters between quotes are put -/
theorem Q_loop (C : Cx N X σ0 Λ ln cur start) {x1 : Int32} {e : Nat} (he : e < X.length) : ∀ (m k : Nat) (s : List Int32) (B : List Int32) (σ : MS), e - k < m → k ≤ e → strS (tw X) X.length k = some (s, e) → FZ σ0 σ → σ.1 20 = nI B.length → σ.1 22 = gw σ0 B → RR (M_quoted_21 N m x1 (nI (e + 1)) (nI k) σ) (fun _ σ' => GR X σ0 (lexS X (e + 1)) (B ++ s.map (fun c => c &&& 255) ++ (if x1 = 0 then [] else [0])) σ') := by
  have hs := C.2.1.small
  intro m
  induction m with
  | zero => intro k s B σ h1; omega
  | succ m ih =>
    intro k s B σ h1 h2 h3 hF h20 h22
    rw [M_quoted_21]
    show RR (if nI (e + 1) - 1 ≤ nI k then _ else _) _
    rw [nI_pred]
    rw [strS] at h3
    by_cases c : e ≤ k
    · have hk : k = e := by omega
      subst hk
      have hq : ch (tw X) X.length k = 34 := by
        refine Decidable.not_not.mp (fun z => ?_)
        rw [if_neg z] at h3
        split at h3
        · cases h3
        · try rw [dif_pos he] at h3
          cases hr : strS (tw X) X.length (shownS (tw X) X.length k 34).2 with
          | none => rw [hr] at h3; cases h3
          | some t =>
            rw [hr] at h3
            have e1 := strS_e (tw X) X.length (X.length) (shownS (tw X) X.length k 34).2 (by omega) t.1 t.2 hr
            have e2 := shownS_le (tw X) X.length k 34
            simp only [Option.map_some, Option.some.injEq, Prod.mk.injEq] at h3
            omega
      rw [if_pos hq] at h3
      cases h3
      refine RR_y (by rw [nI_leI (by omega) (by omega)]; omega) (RR_bnd ?_)
      have hG : GR X σ0 (lexS X (k + 1)) B (sF σ 9 (nI (k + 1))) := by
        refine ⟨k + 1, rfl, ⟨fun j hj => ?_, hF.2⟩, by omega, sF_at _ _ _, ?_, ?_⟩
        · obtain ⟨j1, -⟩ := vol_z hj
          rw [sF_ne _ _ j1]; exact hF.1 j hj
        · rw [sF_ne _ _ (by decide)]; exact h20
        · rw [sF_ne _ _ (by decide)]; exact h22
      unfold M_quoted_61
      simp only [List.map_nil, List.append_nil]
      refine RR_if (fun z => ?_) (fun z => ?_)
      · rw [if_pos z, List.append_nil]; exact RR_ret hG
      · rw [if_neg z]
        refine RR_then (G_put hG 0) (fun _ σ3 h3 => RR_ret ?_)
        exact h3
    · have hk : k < e := by omega
      have hq : ¬ ch (tw X) X.length k = 34 := by
        intro z
        rw [if_pos z] at h3
        cases h3
        omega
      rw [if_neg hq] at h3
      have hn : ¬ (shownS (tw X) X.length k 34).1 < 0 := by
        intro z
        rw [if_pos z] at h3
        cases h3
      rw [if_neg hn, dif_pos (by omega)] at h3
      cases hr : strS (tw X) X.length (shownS (tw X) X.length k 34).2 with
      | none => rw [hr] at h3; cases h3
      | some t =>
        rw [hr] at h3
        simp only [Option.map_some, Option.some.injEq, Prod.mk.injEq] at h3
        obtain ⟨e3, e4⟩ := h3
        have e1 := strS_e (tw X) X.length (X.length) (shownS (tw X) X.length k 34).2 (by omega) t.1 t.2 hr
        have e2 := shownS_le (tw X) X.length k 34
        refine RR_n (by rw [nI_leI (by omega) (by omega)]; omega) ?_
        rw [M_shown_eq (hF.fr.tx C.2.1) (by omega)]
        simp only [cl, Option.bind_some]
        have hP : PUT (sF σ 12 (nI (shownS (tw X) X.length k 34).2)) B (sF σ 12 (nI (shownS (tw X) X.length k 34).2)) := ⟨fun _ _ _ => rfl, rfl, h20, by rw [sF_ne _ _ (by decide), h22]; unfold gw; rw [sF_ne _ _ (by decide), sF_ne _ _ (by decide), hF.1 17 (by decide), hF.1 21 (by decide)]⟩
        obtain ⟨v, σ3, p1, p2⟩ := P_put hP (shownS (tw X) X.length k 34).1
        rw [p1]
        show RR (M_quoted_21 N m x1 (nI (e + 1)) (σ3.1 12) σ3) _
        rw [p2.1 12 (by decide) (by decide), sF_at]
        have hF3 : FZ σ0 σ3 := by
          refine ⟨fun j hj => ?_, fun k hk => by rw [p2.2.1]; exact hF.2 k hk⟩
          obtain ⟨-, -, -, j12, -, j20, j22, -⟩ := vol_z hj
          rw [p2.1 j j20 j22, sF_ne _ _ j12]
          exact hF.1 j hj
        have key := ih (shownS (tw X) X.length k 34).2 t.1 (B ++ [(shownS (tw X) X.length k 34).1 &&& 255]) σ3 (by omega) (by omega) (by rw [hr, ← e4]) hF3 p2.2.2.1 (by rw [p2.2.2.2]; unfold gw; rw [sF_ne _ _ (by decide), sF_ne _ _ (by decide), hF.1 17 (by decide), hF.1 21 (by decide)])
        rw [← e3, List.map_cons]
        rw [show B ++ ((shownS (tw X) X.length k 34).1 &&& 255) :: List.map (fun c => c &&& 255) t.1 = B ++ [(shownS (tw X) X.length k 34).1 &&& 255] ++ List.map (fun c => c &&& 255) t.1 by simp]
        exact key
theorem G_quoted (C : Cx N X σ0 Λ ln cur start) {x1 : Int32} {ts : List AT} {B : List Int32} {σ : MS} (h : GR X σ0 ts B σ) : RR (M_quoted N x1 σ) (fun _ σ' => (∃ a r, tk1 6 ts = some (a, r) ∧ GR X σ0 r (B ++ a.s.map (fun c => c &&& 255) ++ (if x1 = 0 then [] else [0])) σ') ∨ (tk1 6 ts = none ∧ FS X σ0 (fl ln 1) σ')) := by
  have hN := C.1
  have hs := C.2.1.small
  obtain ⟨q0, hl0, hg0⟩ := id h
  unfold M_quoted
  refine RR_then (G_needs C h (c := 6) (by simp) rfl) (fun v σ1 h1 => ?_)
  rcases h1 with ⟨a, r, e1, e2, e3, e4, e5, e6⟩ | ⟨e1, e2, e3⟩
  · refine RR_n (by rw [e2]; decide) ?_
    obtain ⟨et, ek⟩ := tk1_some e1
    obtain ⟨f1, f2⟩ := lexS_6 (hl0.trans et) ek
    obtain ⟨f3, f4⟩ := lexS_F (hl0.trans et) (by rw [ek]; decide) (by rw [ek]; decide)
    obtain ⟨q1, hl1, hg1⟩ := e3
    have se := strS_e (tw X) X.length X.length (a.p + 1) (by omega) a.s (a.e - 1) f1
    have key := Q_loop C (x1 := x1) (e := a.e - 1) se.2.1 N (a.p + 1) a.s B σ1 (by omega) se.1 f1 hg1.1 hg1.2.2.2.1 hg1.2.2.2.2
    rw [show a.e - 1 + 1 = a.e by omega] at key
    rw [e4, e5, nI_1]
    refine RR_imp key (fun _ σ' h' => Or.inl ⟨a, r, e1, ?_⟩)
    rw [f4]
    exact h'
  · exact RR_y e2 (RR_ret (Or.inr ⟨e1, e3⟩))
end
