/-! ===== steps of items: near labels, depth ===== -/
def N5 (X : List Int32) (k : Int32) (a : AT) : Prop := ∃ d, d < 10 ∧ tw X a.p = nI (d + 48) ∧ a.v >>> ((1 : Int32) &&& 31) = nI d ∧ (k = 9 ↔ tw X (a.p + 1) = 102)
def SN (X : List Int32) (s : XSt) : Prop := s.1 = 8 ∨ s.1 = 9 → N5 X s.1 s.2
def T5 (X : List Int32) (a : AT) : Prop := a.k = 5 → SN X (nrK a, a)
theorem and_1 : ∀ k, k < 10 → (2 * nI k + (1 : Int32)) &&& 1 = 1 ∧ (2 * nI k + (0 : Int32)) &&& 1 ≠ 1 := by decide +kernel
theorem lexS_T5 {X : List Int32} {q : Nat} {a : AT} {r : List AT} (hl : lexS X q = a :: r) : T5 X a := by
  intro h5 _
  have h0 : a.k ≠ 0 := by rw [h5]; decide
  have h1 : a.k ≠ 1 := by rw [h5]; decide
  obtain ⟨t1, t2, t3⟩ := lexS_at hl h0 h1
  unfold N5
  show ∃ d, d < 10 ∧ tw X a.p = nI (d + 48) ∧ a.v >>> ((1 : Int32) &&& 31) = nI d ∧ (nrK a = 9 ↔ tw X (a.p + 1) = 102)
  unfold nrK
  generalize a.p = p at *
  unfold tokC at t1
  simp only [] at t1
  split at t1
  · rename_i hd
    cases hn : numC (tw X) p (digTk (tw X) p (pend (tw X) X.length p)) with
    | none => rw [hn] at t1; cases t1
    | some t =>
      rw [hn] at t1
      cases t1
      have h5' : t.1.1 = 5 := h5
      show ∃ d, d < 10 ∧ tw X p = nI (d + 48) ∧ t.1.2.1 >>> ((1 : Int32) &&& 31) = nI d ∧ ((if t.1.2.1 &&& 1 = 1 then (9 : Int32) else 8) = 9 ↔ tw X (p + 1) = 102)
      obtain ⟨k, k1, k2, k3⟩ := dg_n hd
      unfold numC at hn
      split at hn
      · cases hn
        refine ⟨k - 48, by omega, by rw [k3]; congr 1; omega, ?_⟩
        show (2 * (tw X p - 48) + (if tw X (p + 1) = 102 then 1 else 0)) >>> ((1 : Int32) &&& 31) = _ ∧ ((if (2 * (tw X p - 48) + (if tw X (p + 1) = 102 then 1 else 0)) &&& 1 = 1 then (9 : Int32) else 8) = 9 ↔ _)
        rw [k3, show (48 : Int32) = nI 48 from rfl, pk_sub k1]
        have := shr_1 (k - 48) (by omega)
        have ha := and_1 (k - 48) (by omega)
        by_cases hf : tw X (p + 1) = 102
        · rw [if_pos hf, if_pos ha.1]
          exact ⟨this.1, fun _ => hf, fun _ => rfl⟩
        · rw [if_neg hf, if_neg ha.2]
          exact ⟨this.2, fun z => absurd z (by decide), fun z => absurd z hf⟩
      · split at hn
        · cases hn
          exfalso
          revert h5'
          show (if _ then (4 : Int32) else 3) = 5 → False
          split <;> decide
        · cases hn
  · exfalso
    split at t1
    · split at t1
      · cases t1
      · cases t1; exact absurd h5 (by show ¬ ((2 : Int32) = 5); decide)
    · split at t1
      · unfold chrC at t1
        split at t1
        · cases t1; exact absurd h5 (by show ¬ ((3 : Int32) = 5); decide)
        · cases t1
      · split at t1
        · cases hs : strS (tw X) X.length (p + 1) with
          | none => rw [hs] at t1; cases t1
          | some t => rw [hs] at t1; cases t1; exact absurd h5 (by show ¬ ((6 : Int32) = 5); decide)
        · unfold sgnC at t1
          simp only [] at t1
          split at t1
          · cases t1; exact absurd h5 (by show ¬ ((0 : Int32) = 5); decide)
          · split at t1
            · rename_i hc
              split at t1
              · cases t1
                change tw X p = 5 at h5
                rw [h5] at hc
                exact absurd hc (by decide)
              · cases t1
            · split at t1
              · rename_i hs
                cases t1
                change tw X p = 5 at h5
                rw [h5] at hs
                exact absurd hs (by decide)
              · cases t1
theorem T5_lex (X : List Int32) (q : Nat) : ∀ a ∈ lexS X q, T5 X a := by
  induction h : X.length - q using Nat.strongRecOn generalizing q with
  | _ n ih =>
    obtain ⟨a, r, e⟩ := lexS_ne X q
    have eL := e
    have first : T5 X a := lexS_T5 eL
    rw [lexS] at e
    split at e
    · rename_i hq
      split at e
      · rw [eL, ← e]; exact ih (X.length - (q + 1)) (by omega) (q + 1) rfl
      · split at e
        · rw [eL, ← e]; exact ih _ (by omega) _ rfl
        · split at e
          · rw [eL]
            cases e
            intro z hz k
            rcases List.mem_cons.mp hz with rfl | hz
            · exact absurd k (show ¬ (1 : Int32) = 5 by decide)
            · rw [List.mem_singleton.mp hz] at k
              exact absurd k (show ¬ (0 : Int32) = 5 by decide)
          · rename_i b hb
            obtain ⟨g1, g2, g3, g4⟩ := tokC_e hq hb
            rw [dif_pos g1] at e
            injection e with e1 e2
            rw [eL]
            intro z hz
            rcases List.mem_cons.mp hz with rfl | hz
            · exact first
            · rw [← e2] at hz
              exact ih _ (by omega) _ rfl z hz
    · rw [eL]
      cases e
      intro z hz k
      rw [List.mem_singleton.mp hz] at k
      exact absurd k (show ¬ (0 : Int32) = 5 by decide)
section
variable {X : List Int32}
theorem stl_sn {l : Nat} : ∀ (S : List Int32) (R : List XSt), (∀ s ∈ S, s ≠ 8 ∧ s ≠ 9) → (∀ s ∈ R, SN X s) → (∀ s ∈ (stl l S R).1, s ≠ 8 ∧ s ≠ 9) ∧ (∀ s ∈ (stl l S R).2, SN X s)
  | [], R, h1, h2 => ⟨h1, h2⟩
  | s :: S, R, h1, h2 => by
    simp only [stl]
    split
    · exact ⟨h1, h2⟩
    · refine stl_sn S _ (fun x hx => h1 x (List.mem_cons_of_mem _ hx)) (fun x hx => ?_)
      rcases List.mem_append.mp hx with q | q
      · exact h2 x q
      · rw [List.mem_singleton.mp q]
        intro z
        exact absurd z (fun z => z.elim (h1 s (List.mem_cons_self ..)).1 (h1 s (List.mem_cons_self ..)).2)
theorem SN_snoc {R : List XSt} {s : XSt} (h : (∀ s ∈ R, SN X s)) (hs : SN X s) : (∀ x ∈ R ++ [s], SN X x) := by
  intro x hx
  rcases List.mem_append.mp hx with q | q
  · exact h x q
  · rw [List.mem_singleton.mp q]; exact hs
theorem cmpA_sn : ∀ (n : Nat) (ts : List AT) (w : Bool) (o : Nat) (S : List Int32) (R : List XSt) (S' : List Int32) (R' : List XSt) (o' : Nat) (rest : List AT), (∀ a ∈ ts, T5 X a) → (∀ s ∈ S, s ≠ 8 ∧ s ≠ 9) → (∀ s ∈ R, SN X s) → cmpA n ts w o S R = some (S', R', o', rest) → (∀ s ∈ S', s ≠ 8 ∧ s ≠ 9) ∧ (∀ s ∈ R', SN X s)
  | 0, ts, w, o, S, R, S', R', o', rest, _, _, _, h => by cases ts <;> cases w <;> cases h
  | n + 1, [], w, o, S, R, S', R', o', rest, _, _, _, h => by cases w <;> cases h
  | n + 1, a :: r, true, o, S, R, S', R', o', rest, hts, h1, h2, h => by
    have ih := fun (ts : List AT) (w : Bool) (o : Nat) (S : List Int32) (R : List XSt) (ht : ∀ a ∈ ts, T5 X a) (h1 : ∀ s ∈ S, s ≠ 8 ∧ s ≠ 9) (h2 : (∀ s ∈ R, SN X s)) (hh : cmpA n ts w o S R = some (S', R', o', rest)) => cmpA_sn n ts w o S R S' R' o' rest ht h1 h2 hh
    have push : ∀ x : Int32, x ≠ 8 ∧ x ≠ 9 → ∀ s ∈ x :: S, s ≠ 8 ∧ s ≠ 9 := by
      intro x hx s hs
      rcases List.mem_cons.mp hs with e | e
      · rw [e]; exact hx
      · exact h1 s e
    rw [cmpA] at h
    by_cases c37 : a.k = 37
    · rw [if_pos c37] at h
      match r, h with
      | [], h => cases h
      | [_], h => cases h
      | b :: c :: r', h =>
        have h' : (if AT.k b = 2 ∧ (AT.nm b = hiB ∨ AT.nm b = loB) ∧ AT.k c = 40 then cmpA n r' true (o + 1) (40 :: (if AT.nm b = hiB then 12 else 13) :: S) R else none) = some (S', R', o', rest) := h
        by_cases q : AT.k b = 2 ∧ (AT.nm b = hiB ∨ AT.nm b = loB) ∧ AT.k c = 40
        · rw [if_pos q] at h'
          refine ih _ _ _ _ _ (fun x hx => hts x (List.mem_cons_of_mem _ (List.mem_cons_of_mem _ (List.mem_cons_of_mem _ hx)))) ?_ h2 h'
          intro s hs
          rcases List.mem_cons.mp hs with e | e
          · rw [e]; decide
          · refine push _ ?_ s e
            split <;> decide
        · rw [if_neg q] at h'; cases h'
    rw [if_neg c37] at h
    by_cases c3 : a.k = 3 ∨ a.k = 4
    · rw [if_pos c3] at h; exact ih _ _ _ _ _ (fun x hx => hts x (List.mem_cons_of_mem _ hx)) h1 (SN_snoc h2 (fun z => absurd z (by show ¬ ((3 : Int32) = 8 ∨ (3 : Int32) = 9); decide))) h
    rw [if_neg c3] at h
    by_cases c2 : a.k = 2
    · rw [if_pos c2] at h
      refine ih _ _ _ _ _ (fun x hx => hts x (List.mem_cons_of_mem _ hx)) h1 (SN_snoc h2 (fun z => ?_)) h
      have z' : nmK a = 8 ∨ nmK a = 9 := z
      unfold nmK at z'
      split at z'
      · exact absurd z' (by decide)
      · exact absurd z' (by decide)
    rw [if_neg c2] at h
    by_cases c5 : a.k = 5
    · rw [if_pos c5] at h
      refine ih _ _ _ _ _ (fun x hx => hts x (List.mem_cons_of_mem _ hx)) h1 (SN_snoc h2 (fun z => ?_)) h
      exact hts a List.mem_cons_self c5 z
    rw [if_neg c5] at h
    by_cases c45 : a.k = 45
    · rw [if_pos c45] at h; exact ih _ _ _ _ _ (fun x hx => hts x (List.mem_cons_of_mem _ hx)) (push 10 (by decide)) h2 h
    rw [if_neg c45] at h
    by_cases c126 : a.k = 126
    · rw [if_pos c126] at h; exact ih _ _ _ _ _ (fun x hx => hts x (List.mem_cons_of_mem _ hx)) (push 11 (by decide)) h2 h
    rw [if_neg c126] at h
    by_cases c40 : a.k = 40
    · rw [if_pos c40] at h; exact ih _ _ _ _ _ (fun x hx => hts x (List.mem_cons_of_mem _ hx)) (push 40 (by decide)) h2 h
    rw [if_neg c40] at h
    cases h
  | n + 1, a :: r, false, o, S, R, S', R', o', rest, hts, h1, h2, h => by
    have ih := fun (ts : List AT) (w : Bool) (o : Nat) (S : List Int32) (R : List XSt) (ht : ∀ a ∈ ts, T5 X a) (h1 : ∀ s ∈ S, s ≠ 8 ∧ s ≠ 9) (h2 : (∀ s ∈ R, SN X s)) (hh : cmpA n ts w o S R = some (S', R', o', rest)) => cmpA_sn n ts w o S R S' R' o' rest ht h1 h2 hh
    rw [cmpA] at h
    by_cases c41 : a.k = 41 ∧ 0 < o
    · rw [if_pos c41] at h
      obtain ⟨w1, w2⟩ := stl_sn (l := 1) S R h1 h2
      exact ih _ _ _ _ _ (fun x hx => hts x (List.mem_cons_of_mem _ hx)) (fun s hs => w1 s (List.mem_of_mem_tail hs)) w2 h
    rw [if_neg c41] at h
    by_cases cl : 0 < levN a.k
    · rw [if_pos cl] at h
      obtain ⟨w1, w2⟩ := stl_sn (l := levN a.k) S R h1 h2
      refine ih _ _ _ _ _ (fun x hx => hts x (List.mem_cons_of_mem _ hx)) (fun s hs => ?_) w2 h
      rcases List.mem_cons.mp hs with e | e
      · rw [e]; exact ⟨fun z => by rw [z] at cl; exact absurd cl (by decide), fun z => by rw [z] at cl; exact absurd cl (by decide)⟩
      · exact w1 s e
    rw [if_neg cl] at h
    cases h
    exact ⟨h1, h2⟩
theorem cmpT_sn {ts : List AT} {R : List XSt} {rest : List AT} (hts : ∀ a ∈ ts, T5 X a) (h : cmpT ts = some (R, rest)) : (∀ s ∈ R, SN X s) := by
  unfold cmpT at h
  cases hc : cmpA ts.length ts true 0 [] [] with
  | none => rw [hc] at h; cases h
  | some x =>
    obtain ⟨S', R', o', rest'⟩ := x
    rw [hc] at h
    have h' : (if 0 < o' then none else some ((stl 1 S' R').2, rest')) = some (R, rest) := h
    by_cases q : 0 < o'
    · rw [if_pos q] at h'; cases h'
    · rw [if_neg q] at h'
      cases h'
      obtain ⟨w1, w2⟩ := cmpA_sn _ _ _ _ _ _ _ _ _ _ hts (fun s hs => by cases hs) (fun s hs => by cases hs) hc
      exact (stl_sn S' R' w1 w2).2

/-- a list of steps that can be evaluated -/
def RG (X : List Int32) (R : List XSt) : Prop := dpt R = some 1 ∧ okX R ∧ ∀ s ∈ R, SN X s
abbrev TkG (X : List Int32) (ts : List AT) : Prop := ∀ a ∈ ts, T5 X a ∧ levN (AT.k a) < 7
theorem cmpT_RG {ts : List AT} {R : List XSt} {rest : List AT} (ht : TkG X ts) (h : cmpT ts = some (R, rest)) : RG X R := ⟨cmpT_dep (fun a ha => (ht a ha).2) h, cmpT_okX h, cmpT_sn (fun a ha => (ht a ha).1) h⟩
theorem Suf.mem {rest ts : List AT} {k : Nat} (h : Suf rest ts k) : ∀ a ∈ rest, a ∈ ts := by
  obtain ⟨pre, e, -⟩ := h
  intro a ha
  rw [e]
  exact List.mem_append_right _ ha
def isX (c : Int32) : Bool := !(decide (c = 44 ∨ c = 40 ∨ c = 41)) && !(isRM c)
def oneC (sh : List Int32) : Bool := decide ((sh.filter isX).length ≤ 1)
theorem od_C (s w : Int32) : oneC (od s w).2.1 = true := by
  unfold od
  by_cases c1 : s = 1
  · rw [if_pos c1]; rfl
  rw [if_neg c1]
  by_cases c2 : s = 2
  · rw [if_pos c2]; rfl
  rw [if_neg c2]
  by_cases c3 : s = 3
  · rw [if_pos c3]; rfl
  rw [if_neg c3]
  by_cases c4 : s = 4
  · rw [if_pos c4]; rfl
  rw [if_neg c4]
  by_cases c5 : s = 5
  · rw [if_pos c5]; rfl
  rw [if_neg c5]
  by_cases c6 : s = 6
  · rw [if_pos c6]; rfl
  rw [if_neg c6]
  by_cases c7 : s = 7
  · rw [if_pos c7]; rfl
  rw [if_neg c7]
  by_cases c8 : s = 8
  · rw [if_pos c8]; rfl
  rw [if_neg c8]
  by_cases c9 : s = 9
  · rw [if_pos c9]; rfl
  rw [if_neg c9]
  by_cases c10 : s = 10
  · rw [if_pos c10]; rfl
  rw [if_neg c10]
  by_cases c11 : s = 11
  · rw [if_pos c11]; rfl
  rw [if_neg c11]
  by_cases c12 : s = 12
  · rw [if_pos c12]; rfl
  rw [if_neg c12]
  by_cases c13 : s = 13
  · rw [if_pos c13]; rfl
  rw [if_neg c13]
  by_cases c14 : s = 14
  · rw [if_pos c14]; rfl
  rw [if_neg c14]
  by_cases c16 : s = 16
  · rw [if_pos c16]; rfl
  rw [if_neg c16]
  by_cases c17 : s = 17
  · rw [if_pos c17]; rfl
  rw [if_neg c17]
  by_cases c18 : s = 18
  · rw [if_pos c18]; rfl
  rw [if_neg c18]
  by_cases c19 : s = 19
  · rw [if_pos c19]; rfl
  rw [if_neg c19]
  by_cases c20 : s = 20
  · rw [if_pos c20]; rfl
  rw [if_neg c20]
  by_cases c21 : s = 21
  · rw [if_pos c21]; rfl
  rw [if_neg c21]
  by_cases c22 : s = 22
  · rw [if_pos c22]; rfl
  rw [if_neg c22]
  by_cases c23 : s = 23
  · rw [if_pos c23]; rfl
  rw [if_neg c23]
  by_cases c24 : s = 24
  · rw [if_pos c24]; rfl
  rw [if_neg c24]
  by_cases c25 : s = 25
  · rw [if_pos c25]; rfl
  rw [if_neg c25]
  by_cases c26 : s = 26
  · rw [if_pos c26]; rfl
  rw [if_neg c26]
  by_cases c27 : s = 27
  · rw [if_pos c27]; rfl
  rw [if_neg c27]
  by_cases c28 : s = 28
  · rw [if_pos c28]; rfl
  rw [if_neg c28]
  by_cases c29 : s = 29
  · rw [if_pos c29]; rfl
  rw [if_neg c29]
  by_cases c30 : s = 30
  · rw [if_pos c30]; rfl
  rw [if_neg c30]
  by_cases c31 : s = 31
  · rw [if_pos c31]; rfl
  rw [if_neg c31]
  by_cases c32 : s = 32
  · rw [if_pos c32]; rfl
  rw [if_neg c32]
  by_cases c33 : s = 33
  · rw [if_pos c33]; rfl
  rw [if_neg c33]
  by_cases c34 : s = 34
  · rw [if_pos c34]; rfl
  rw [if_neg c34]
  by_cases c35 : s = 35
  · rw [if_pos c35]; split <;> rfl
  rw [if_neg c35]
  by_cases c36 : s = 36
  · rw [if_pos c36]; rfl
  rw [if_neg c36]
  by_cases c37 : s = 37
  · rw [if_pos c37]; rfl
  rw [if_neg c37]
  by_cases c38 : s = 38
  · rw [if_pos c38]; rfl
  rw [if_neg c38]
  by_cases c39 : s = 39
  · rw [if_pos c39]; rfl
  rw [if_neg c39]
  by_cases c40 : s = 40
  · rw [if_pos c40]; rfl
  rw [if_neg c40]
  by_cases c41 : s = 41
  · rw [if_pos c41]; rfl
  rw [if_neg c41]
  by_cases c42 : s = 42
  · rw [if_pos c42]; rfl
  rw [if_neg c42]
  by_cases c43 : s = 43
  · rw [if_pos c43]; rfl
  rw [if_neg c43]
  by_cases c44 : s = 44
  · rw [if_pos c44]; rfl
  rw [if_neg c44]
  by_cases c45 : s = 45
  · rw [if_pos c45]; rfl
  rw [if_neg c45]
  by_cases c46 : s = 46
  · rw [if_pos c46]; rfl
  rw [if_neg c46]
  by_cases c47 : s = 47
  · rw [if_pos c47]; rfl
  rw [if_neg c47]
  by_cases c48 : s = 48
  · rw [if_pos c48]; rfl
  rw [if_neg c48]
  by_cases c49 : s = 49
  · rw [if_pos c49]; rfl
  rw [if_neg c49]
  rfl
def GX (X : List Int32) (q : Int32) (R : List XSt) : Prop := (q = 0 ∧ R = []) ∨ RG X R
theorem shp_X : ∀ (sh : List Int32) (ts : List AT) (w q : Int32) (R : List XSt), TkG X ts → (sh.filter isX).length ≤ 1 → ((q = 0 ∧ R = []) ∨ ((sh.filter isX).length = 0 ∧ RG X R)) → (shp sh ts w q R).1 = 0 → GX X (shp sh ts w q R).2.2.1 (shp sh ts w q R).2.2.2.1
  | [], ts, w, q, R, _, _, hG, _ => by
    rcases hG with h | h
    · exact Or.inl h
    · exact Or.inr h.2
  | c :: sh, ts, w, q, R, ht, h1, hG, h => by
    rw [shp] at h ⊢
    by_cases hp : c = 44 ∨ c = 40 ∨ c = 41
    · have hx : isX c = false := by unfold isX; rw [decide_eq_true hp]; rfl
      rw [List.filter_cons, if_neg (by rw [hx]; decide)] at h1 hG
      rw [if_pos hp] at h ⊢
      cases htk : tk1 c ts with
      | none => rw [htk] at h; exact absurd h (show ¬ (1 : Nat) = 0 by omega)
      | some x =>
        rw [htk] at h
        simp only [] at h ⊢
        obtain ⟨e1, e2⟩ := tk1_some htk
        exact shp_X sh x.2 w q R (fun a ha => ht a (by rw [e1]; exact List.mem_cons_of_mem _ ha)) h1 hG h
    · rw [if_neg hp] at h ⊢
      by_cases hr : isRM c = true
      · have hx : isX c = false := by unfold isX; rw [hr, Bool.not_true, Bool.and_false]
        rw [List.filter_cons, if_neg (by rw [hx]; decide)] at h1 hG
        rw [if_pos hr] at h ⊢
        by_cases h0 : (regT c ts).1 = 0
        · rw [if_pos h0] at h ⊢
          exact shp_X sh _ _ q R (fun a ha => ht a ((regT_suf h0).mem a ha)) h1 hG h
        · rw [if_neg h0] at h; exact absurd h h0
      · rw [if_neg hr] at h ⊢
        have hx : isX c = true := by unfold isX; rw [decide_eq_false hp, show isRM c = false by simpa using hr]; rfl
        rw [List.filter_cons, if_pos hx, List.length_cons] at h1 hG
        cases hc : cmpT ts with
        | none => rw [hc] at h; exact absurd h (show ¬ (1 : Nat) = 0 by omega)
        | some x =>
          rw [hc] at h
          simp only [] at h ⊢
          have hR : R = [] := by
            rcases hG with g | g
            · exact g.2
            · exact absurd g.1 (by omega)
          refine shp_X sh x.2 w c (R ++ x.1) (fun a ha => ht a ((cmpT_suf hc).1.mem a ha)) (by omega) (Or.inr ⟨by omega, ?_⟩) h
          rw [hR, List.nil_append]
          exact cmpT_RG ht hc
/-- an item of the class: it has no steps, or they can be evaluated -/
def IX (X : List Int32) (i : AI) : Prop := (i.1 = 0 ∨ i.1 = 1 ∨ i.1 = 2 ∨ i.1 = 3 ∨ i.1 = 4) ∨ RG X i.2.2.2.1
theorem nmT_X : ∀ (n : Nat) (ts : List AT), TkG X ts → (nmT n ts).1 = 0 → ∀ R ∈ (nmT n ts).2.1, RG X R
  | 0, ts, _, h => absurd h (show ¬ (1 : Nat) = 0 by omega)
  | n + 1, ts, ht, h => by
    rw [nmT] at h ⊢
    cases hc : cmpT ts with
    | none => rw [hc] at h; exact absurd h (show ¬ (1 : Nat) = 0 by omega)
    | some z =>
      obtain ⟨R, rest⟩ := z
      rw [hc] at h
      simp only [] at h ⊢
      have hs := (cmpT_suf hc).1
      by_cases hE : atE rest = true
      · rw [if_pos hE]
        intro R' hR'
        rw [List.mem_singleton.mp hR']
        exact cmpT_RG ht hc
      · rw [if_neg hE] at h ⊢
        cases htk : tk1 44 rest with
        | none => rw [htk] at h; exact absurd h (show ¬ (1 : Nat) = 0 by omega)
        | some q =>
          rw [htk] at h
          simp only [] at h ⊢
          have h2 := tk1_suf (by decide) htk
          intro R' hR'
          rcases List.mem_cons.mp hR' with e | e
          · rw [e]; exact cmpT_RG ht hc
          · exact nmT_X n q.2 (fun a ha => ht a (hs.mem a (h2.mem a ha))) h R' e
theorem GX.ix {s : SR} (h : GX X s.2.2.1 s.2.2.2.1) : ∀ i ∈ siS s, IX X i := by
  intro i hi
  rw [List.mem_singleton.mp hi]
  rcases h with h | h
  · exact Or.inl (Or.inl h.1)
  · exact Or.inr h
theorem stm_X {η : Int32 → AT → Int32 × Bool} {lo : AT → Bool} {tk : List Int32 → Bool} {o : OD} {ts : List AT} (ht : TkG X ts) (ho : oneC o.2.1 = true) (h : (stm η lo tk o ts).1 = 0) : ∀ i ∈ (stm η lo tk o ts).2.1, IX X i := by
  unfold stm at h ⊢
  by_cases c12 : o.1 = 1 ∨ o.1 = 2
  · rw [if_pos c12]; intro i hi; cases hi
  rw [if_neg c12] at h ⊢
  by_cases c3 : o.1 = 3
  · rw [if_pos c3]; intro i hi; cases hi
  rw [if_neg c3] at h ⊢
  by_cases c4 : o.1 = 4
  · rw [if_pos c4] at h ⊢
    intro i hi
    obtain ⟨R, hR, rfl⟩ := List.mem_map.mp hi
    exact Or.inr (nmT_X _ _ ht h R hR)
  rw [if_neg c4] at h ⊢
  by_cases c5 : o.1 = 5
  · rw [if_pos c5]
    intro i hi
    obtain ⟨R, hR, rfl⟩ := List.mem_map.mp hi
    exact Or.inl (Or.inr (Or.inr (Or.inr (Or.inr rfl))))
  rw [if_neg c5] at h ⊢
  by_cases c6 : o.1 = 6
  · rw [if_pos c6]; intro i hi; rw [List.mem_singleton.mp hi]; exact Or.inl (Or.inr (Or.inr (Or.inl rfl)))
  rw [if_neg c6] at h ⊢
  by_cases c7 : o.1 = 7
  · rw [if_pos c7]; intro i hi; rw [List.mem_singleton.mp hi]; exact Or.inl (Or.inr (Or.inr (Or.inr (Or.inl rfl))))
  rw [if_neg c7] at h ⊢
  by_cases c8 : o.1 = 8
  · rw [if_pos c8]
    intro i hi
    obtain ⟨R, hR, rfl⟩ := List.mem_map.mp hi
    exact Or.inl (Or.inl rfl)
  rw [if_neg c8] at h ⊢
  refine GX.ix ?_
  unfold srO at h ⊢
  have go : ∀ (sh : List Int32) (w : Int32), (sh.filter isX).length ≤ 1 → (shp sh ts w 0 []).1 = 0 → GX X (shp sh ts w 0 []).2.2.1 (shp sh ts w 0 []).2.2.2.1 := fun sh w h1 h0 => shp_X sh ts w 0 [] ht h1 (Or.inl ⟨rfl, rfl⟩) h0
  by_cases c9 : o.1 = 9
  · rw [if_pos c9] at h ⊢
    by_cases hr : isReg ts = true
    · rw [if_pos hr] at h ⊢; exact go _ _ (by decide) h
    · rw [if_neg hr] at h ⊢; exact go _ _ (by decide) h
  · rw [if_neg c9] at h ⊢
    by_cases c10 : o.1 = 10
    · rw [if_pos c10] at h ⊢
      by_cases hr : atE ts.tail = true
      · rw [if_pos hr] at h ⊢; exact go _ _ (by decide) h
      · rw [if_neg hr] at h ⊢; exact go _ _ (by decide) h
    · rw [if_neg c10] at h ⊢
      exact go _ _ (of_decide_eq_true ho) h
theorem IX_ev {E : List Ev} (hW : WfE X E) {E1 E2 : List Ev} {e : Ev} (hE : E = E1 ++ e :: E2) (h5 : e.1 = 5) : ∀ i ∈ e.2.2.2.2.2, IX X i := by
  obtain ⟨a, r, o, lev, w1, w2, w3, w4, w5, w6, w7⟩ := (hW E1 e E2 hE).2.2.2.2.1 h5
  obtain ⟨k, o', -, rfl, -⟩ := opO_tbl w4
  have ht : TkG X r := by
    intro z hz
    have hm : z ∈ lexS X e.2.1 := by rw [w1]; exact List.mem_cons_of_mem _ hz
    exact ⟨T5_lex X _ z hm, (TkF_lex X e.2.1).2.2.1 z hm⟩
  have hI := stm_X ht (od_C _ _) w5
  intro i hi
  rw [w6] at hi
  obtain ⟨i0, h0, rfl⟩ := List.mem_map.mp hi
  have := hI i0 h0
  unfold curL
  split
  · exact this
  · exact this
end
