/-! ===== reading: labels and lines ===== -/
/-- an event: kind (0, 1 labels in text and data; 2 a constant; 3, 4 near labels; 5 a statement), where it begins, its line, its section, its value, its items -/
abbrev Ev : Type := Nat × Nat × Nat × Nat × Int32 × List AI
def lbE (e : Ev) : Option Lb := if e.1 < 5 then some (e.2.1, e.1, e.2.2.2.2.1) else none
def LbE (E : List Ev) : List Lb := E.filterMap lbE
def StE (E : List Ev) : List Ev := E.filter (fun e => decide (e.1 = 5))
def hd1 : List AT → Option (AT × List AT)
  | a :: r => some (a, r)
  | [] => none
/-- the labels of a line: fault, the statement's mnemonic, what is left, the events -/
def rdLab (X : List Int32) (sec ln : Nat) : Nat → List AT → List Ev → Nat × Option AT × List AT × List Ev
  | 0, _, E => (1, none, [], E)
  | n + 1, ts, E => (hd1 ts).elim (1, none, [], E) (fun x => if x.1.k = 0 then (0, none, ts, E) else if x.1.k = 2 ∨ x.1.k = 4 then (hd1 x.2).elim (1, none, [], E) (fun y => if y.1.k = 58 then (if x.1.k = 2 ∧ tkA X (LbE E) x.1.nm = true then (4, none, [], E) else rdLab X sec ln n y.2 (E ++ [(sec + (if x.1.k = 4 then 3 else 0), x.1.p, ln, sec, 0, [])])) else if x.1.k = 4 then (1, none, [], E) else (0, some x.1, x.2, E)) else (1, none, [], E))
theorem rdLab_0 (X : List Int32) (sec ln n : Nat) {a : AT} {r : List AT} (E : List Ev) (h : a.k = 0) : rdLab X sec ln (n + 1) (a :: r) E = (0, none, a :: r, E) := by
  rw [rdLab]
  exact if_pos h
theorem rdLab_bad (X : List Int32) (sec ln n : Nat) {a : AT} {r : List AT} (E : List Ev) (h : a.k ≠ 0) (h2 : ¬ (a.k = 2 ∨ a.k = 4)) : rdLab X sec ln (n + 1) (a :: r) E = (1, none, [], E) := by
  rw [rdLab]
  show (if a.k = 0 then _ else _) = _
  rw [if_neg h, if_neg h2]
theorem rdLab_c (X : List Int32) (sec ln n : Nat) {a b : AT} {r : List AT} (E : List Ev) (h : a.k ≠ 0) (h2 : a.k = 2 ∨ a.k = 4) : rdLab X sec ln (n + 1) (a :: b :: r) E = if b.k = 58 then (if a.k = 2 ∧ tkA X (LbE E) a.nm = true then (4, none, [], E) else rdLab X sec ln n r (E ++ [(sec + (if a.k = 4 then 3 else 0), a.p, ln, sec, 0, [])])) else if a.k = 4 then (1, none, [], E) else (0, some a, b :: r, E) := by
  rw [rdLab]
  show (if a.k = 0 then _ else _) = _
  rw [if_neg h, if_pos h2]
  rfl
/-- what an assembling leaves of the text and of what was typed -/
def KF (σA σ : MS) : Prop := σ.1 1 = σA.1 1 ∧ σ.1 2 = σA.1 2 ∧ σ.1 3 = σA.1 3 ∧ σ.2 0 = σA.2 0 ∧ σ.2 1 = σA.2 1
theorem KF.rf (σ : MS) : KF σ σ := ⟨rfl, rfl, rfl, rfl, rfl⟩
theorem KF.tr {a b c : MS} (h1 : KF a b) (h2 : KF b c) : KF a c := ⟨h2.1.trans h1.1, h2.2.1.trans h1.2.1, h2.2.2.1.trans h1.2.2.1, h2.2.2.2.1.trans h1.2.2.2.1, h2.2.2.2.2.trans h1.2.2.2.2⟩
theorem KF.tx {σA σ : MS} (h : KF σA σ) {w : Nat → Int32} {n : Nat} (T : TX σA w n) : TX σ w n := ⟨by rw [h.2.1]; exact T.size, fun k hk => by rw [h.2.2.2.2]; exact T.text k hk, T.small⟩
theorem FR.kf {σ0 σ : MS} (h : FR σ0 σ) : KF σ0 σ := ⟨h.1 1 (by decide), h.1 2 (by decide), h.1 3 (by decide), h.2 0 (by decide) (by decide) (by decide), h.2 1 (by decide) (by decide) (by decide)⟩
/-- a fault stands -/
def FTt (X : List Int32) (σA : MS) (F : Int32) (σ : MS) : Prop := KF σA σ ∧ At9 X σ ∧ σ.1 14 = F
theorem FS.ft {X : List Int32} {σA σ0 σ : MS} {F : Int32} (h : FS X σ0 F σ) (hk : KF σA σ0) : FTt X σA F σ := ⟨hk.tr h.1.kf, h.2.1, h.2.2⟩
/-- levels and kinds of a statement's items -/
def levI : List AI → Nat × Nat
  | [i] => if isJ i.1 = true then (Lof i.2.2.1, kdO i.1 i.2.1) else (0, 0)
  | _ => (0, 0)
def bytI (l : List AI) : Int32 := match l with
  | [i] => if i.1 = 3 then -1 - i.2.1 else nI (ilens l)
  | _ => nI (ilens l)
/-- a statement in the reference's arrays -/
def StR (σ : MS) (i : Nat) (e : Ev) : Prop := σ.2 2 i = nI (plc e.2.1 (levI e.2.2.2.2.2).1 e.2.2.2.1 (levI e.2.2.2.2.2).2) ∧ σ.2 4 i = bytI e.2.2.2.2.2
def ev0 : Ev := (0, 0, 0, 0, 0, [])
/-- the reference while it reads -/
def RSt (X : List Int32) (σA : MS) (E : List Ev) (sec ln q : Nat) (σ : MS) : Prop := KF σA σ ∧ TX σ (tw X) X.length ∧ LBs X σ (LbE E) ∧ σ.1 15 = nI ln ∧ σ.1 16 = nI sec ∧ sec < 2 ∧ σ.1 14 = 0 ∧ q ≤ X.length ∧ σ.1 9 = nI q ∧ σ.1 4 = nI (StE E).length ∧ (∀ i, i < (StE E).length → StR σ i ((StE E).getD i ev0)) ∧ 2 * (LbE E).length ≤ q ∧ ln < 10000
theorem LbE_snoc (E : List Ev) (e : Ev) : LbE (E ++ [e]) = LbE E ++ (if e.1 < 5 then [(e.2.1, e.1, e.2.2.2.2.1)] else []) := by
  unfold LbE
  rw [List.filterMap_append]
  congr 1
  unfold lbE
  simp only [List.filterMap_cons, List.filterMap_nil]
  by_cases h : e.1 < 5
  · rw [if_pos h, if_pos h]
  · rw [if_neg h, if_neg h]
theorem StE_snoc (E : List Ev) (e : Ev) : StE (E ++ [e]) = StE E ++ (if e.1 = 5 then [e] else []) := by
  unfold StE
  rw [List.filter_append]
  congr 1
  by_cases h : e.1 = 5
  · rw [if_pos h]; simp [h]
  · rw [if_neg h]; simp [h]
section
variable {N : Nat} {X : List Int32} {σA : MS}
/-- a scan while reading -/
theorem R_scan {E : List Ev} {sec ln q : Nat} {σ : MS} (hN : 4200 < N) (h : RSt X σA E sec ln q σ) {a : AT} {r : List AT} (hl : lexS X q = a :: r) : ∃ σ1, M_scan N σ = some (0, σ1) ∧ SC σ σ1 X q a ∧ (a.k ≠ 0 → a.k ≠ 1 → r = lexS X a.e) ∧ KF σ σ1 := by
  obtain ⟨h1, h2, h3, h4, h5, h5', h6, h7, h8, h9⟩ := h
  have hs := h2.small
  obtain ⟨σ1, s1, s2, s3⟩ := M_scanA (N := N) h2 (by omega) h7 h8 hl
  refine ⟨σ1, s1, s2, s3, ⟨s2.1 1 (by decide) (by decide) (by decide) (by decide) (by decide), s2.1 2 (by decide) (by decide) (by decide) (by decide) (by decide), s2.1 3 (by decide) (by decide) (by decide) (by decide) (by decide), by rw [s2.2.1], by rw [s2.2.1]⟩⟩
/-- behind a scan that reads on -/
theorem RSt.to {E : List Ev} {sec ln q q' : Nat} {σ σ1 : MS} (h : RSt X σA E sec ln q σ) (hq : q ≤ q') (hq' : q' ≤ X.length) (hs : ∀ j, j ≠ 9 → j ≠ 10 → j ≠ 11 → j ≠ 12 → j ≠ 13 → σ1.1 j = σ.1 j) (h2 : σ1.2 = σ.2) (h9 : σ1.1 9 = nI q') : RSt X σA E sec ln q' σ1 := by
  obtain ⟨a1, a2, a3, a4, a5, a5', a6, a7, a8, a9, a10, a11, a12⟩ := h
  refine ⟨a1.tr ⟨hs 1 (by decide) (by decide) (by decide) (by decide) (by decide), hs 2 (by decide) (by decide) (by decide) (by decide) (by decide), hs 3 (by decide) (by decide) (by decide) (by decide) (by decide), by rw [h2], by rw [h2]⟩, ⟨by rw [hs 2 (by decide) (by decide) (by decide) (by decide) (by decide)]; exact a2.size, fun k hk => by rw [h2]; exact a2.text k hk, a2.small⟩, ⟨by rw [hs 5 (by decide) (by decide) (by decide) (by decide) (by decide)]; exact a3.1, a3.2.1, fun i hi => by rw [h2]; exact a3.2.2 i hi⟩, by rw [hs 15 (by decide) (by decide) (by decide) (by decide) (by decide)]; exact a4, by rw [hs 16 (by decide) (by decide) (by decide) (by decide) (by decide)]; exact a5, a5', by rw [hs 14 (by decide) (by decide) (by decide) (by decide) (by decide)]; exact a6, hq', h9, by rw [hs 4 (by decide) (by decide) (by decide) (by decide) (by decide)]; exact a9, fun i hi => ?_, by omega, a12⟩
  unfold StR
  rw [h2]
  exact a10 i hi
theorem R_blame {E : List Ev} {sec ln q : Nat} {σ : MS} (h14 : σ.1 14 = 0) (h15 : σ.1 15 = nI ln) (hk : KF σA σ) (h9 : At9 X σ) (x : Int32) {k : Nat} (hx : x = nI k) : RR (M_blame x σ) (fun _ σ' => FTt X σA (fl ln k) σ' ∧ (∀ j, j ≠ 14 → σ'.1 j = σ.1 j) ∧ σ'.2 = σ.2) := by
  refine ⟨0, _, M_blame_eq x h14, ⟨hk.tr ⟨sF_ne _ _ (by decide), sF_ne _ _ (by decide), sF_ne _ _ (by decide), rfl, rfl⟩, h9.eq (sF_ne _ _ (by decide)), ?_⟩, fun j hj => sF_ne _ _ hj, rfl⟩
  rw [sF_at, h15, hx, fl_val]
/-- labelled(): what it leaves -/
def LbP (X : List Int32) (σA : MS) (sec ln : Nat) (t : Nat × Option AT × List AT × List Ev) (v : Int32) (σ : MS) : Prop :=
  if t.1 ≠ 0 then v = 0 ∧ FTt X σA (fl ln t.1) σ else match t.2.1 with
    | none => v = 0 ∧ ∃ q, RSt X σA t.2.2.2 sec ln q σ ∧ lexS X q = t.2.2.1 ∧ atE t.2.2.1 = true ∧ q = skipB (tw X) X.length q
    | some a => v = 1 ∧ RSt X σA t.2.2.2 sec ln a.p σ ∧ lexS X a.p = a :: t.2.2.1 ∧ a.k = 2
theorem skipB_id (w : Nat → Int32) (n q : Nat) : skipB w n (skipB w n q) = skipB w n q := by
  have h := skipB_at w n q
  generalize skipB w n q = p at h ⊢
  rw [skipB, dif_neg h]
theorem dig1 {q : Nat} {a : AT} {r : List AT} (hl : lexS X q = a :: r) (hk : a.k = 3 ∨ a.k = 4) : (a.e = a.p + 1) ↔ a.k = 4 := by
  induction h : X.length - q using Nat.strongRecOn generalizing q with
  | _ n ih =>
    rw [lexS] at hl
    split at hl
    · rename_i hq
      split at hl
      · exact ih (X.length - (q + 1)) (by omega) hl rfl
      · split at hl
        · exact ih _ (by omega) hl rfl
        · split at hl
          · cases hl; rcases hk with z | z <;> exact absurd (show (1 : Int32) = _ from z) (by decide)
          · rename_i b hb
            obtain ⟨g1, g2, g3, g4⟩ := tokC_e hq hb
            rw [dif_pos g1] at hl
            injection hl with e1 e2
            subst e1
            rw [g3]
            unfold tokC at hb
            simp only [] at hb
            by_cases hd : isDg (tw X q) = true
            · rw [if_pos hd] at hb
              unfold numC at hb
              split at hb
              · cases hb
                rcases hk with z | z <;> exact absurd (show (5 : Int32) = _ from z) (by decide)
              · split at hb
                · cases hb
                  dsimp only
                  by_cases c : (digTk (tw X) q (pend (tw X) X.length q)).to = q + 1
                  · rw [if_pos c]; exact ⟨fun _ => rfl, fun _ => c⟩
                  · rw [if_neg c]; exact ⟨fun z => absurd z c, fun z => absurd (show (3 : Int32) = 4 from z) (by decide)⟩
                · cases hb
            rw [if_neg hd] at hb
            by_cases hp : isPl (tw X q) = true
            · rw [if_pos hp] at hb
              split at hb
              · cases hb
              · cases hb; rcases hk with z | z <;> exact absurd (show (2 : Int32) = _ from z) (by decide)
            rw [if_neg hp] at hb
            by_cases h39 : tw X q = 39
            · rw [if_pos h39] at hb
              unfold chrC at hb
              split at hb
              · rename_i hc2
                cases hb
                dsimp only
                have hge : q + 1 < (chrTk (tw X) X.length q).to := by
                  unfold chrTk at hc2 ⊢
                  simp only [] at hc2 ⊢
                  have hle := shownS_le (tw X) X.length (q + 1) 39
                  split at hc2
                  · rename_i hcc; rw [if_pos hcc]; show q + 1 < _ + 1; omega
                  · exact absurd hc2 (by show ¬ (5 : Int32) = 2; decide)
                exact ⟨fun z => by have z' : (chrTk (tw X) X.length q).to = q + 1 := z; omega, fun z => absurd (show (3 : Int32) = 4 from z) (by decide)⟩
              · cases hb
            rw [if_neg h39] at hb
            by_cases h34 : tw X q = 34
            · rw [if_pos h34] at hb
              cases hs : strS (tw X) X.length (q + 1) with
              | none => rw [hs] at hb; cases hb
              | some t => rw [hs] at hb; cases hb; rcases hk with z | z <;> exact absurd (show (6 : Int32) = _ from z) (by decide)
            rw [if_neg h34] at hb
            exfalso
            unfold sgnC at hb
            simp only [] at hb
            have key : ∀ c : Int32, (c = 10 ∨ c = 60 ∨ c = 62 ∨ isSg c = true) → c ≠ 3 ∧ c ≠ 4 := by
              intro c hc
              simp only [isSg, decide_eq_true_eq] at hc
              rcases hc with h | h | h | h | h | h | h | h | h | h | h | h | h | h | h | h <;> subst h <;> decide
            split at hb
            · cases hb; rcases hk with z | z <;> exact absurd (show (0 : Int32) = _ from z) (by decide)
            · split at hb
              · rename_i h6
                split at hb
                · cases hb
                  have kk := key (tw X q) (by rcases h6 with z | z; exact Or.inr (Or.inl z); exact Or.inr (Or.inr (Or.inl z)))
                  rcases hk with z | z
                  · exact kk.1 z
                  · exact kk.2 z
                · cases hb
              · split at hb
                · rename_i hs
                  cases hb
                  have kk := key (tw X q) (Or.inr (Or.inr (Or.inr hs)))
                  rcases hk with z | z
                  · exact kk.1 z
                  · exact kk.2 z
                · cases hb
    · cases hl; rcases hk with z | z <;> exact absurd (show (0 : Int32) = _ from z) (by decide)
end
