/-! ===== how much room a statement takes ===== -/
/-- tokens lie one behind the other -/
def Srt : Nat → List AT → Prop
  | _, [] => True
  | q, a :: r => q ≤ a.p ∧ a.p ≤ a.e ∧ (a.k ≠ 0 → a.k ≠ 1 → a.p < a.e) ∧ Srt a.e r
theorem Srt.le {q q' : Nat} {ts : List AT} (h : Srt q ts) (hq : q' ≤ q) : Srt q' ts := by
  cases ts with
  | nil => trivial
  | cons a r => exact ⟨by have := h.1; omega, h.2⟩
theorem lexS_srt (X : List Int32) (q : Nat) : Srt q (lexS X q) := by
  induction h : X.length - q using Nat.strongRecOn generalizing q with
  | _ n ih =>
    rw [lexS]
    split
    · rename_i hq
      split
      · exact (ih (X.length - (q + 1)) (by omega) (q + 1) rfl).le (by omega)
      · split
        · exact (ih _ (by omega) (max (lend (tw X) X.length q) (q + 1)) rfl).le (by omega)
        · split
          · exact ⟨Nat.le_refl _, Nat.le_refl _, fun _ z => absurd rfl z, Nat.le_refl _, Nat.le_refl _, fun z => absurd rfl z, trivial⟩
          · rename_i b hb
            obtain ⟨g1, g2, g3, g4⟩ := tokC_e hq hb
            rw [dif_pos g1]
            exact ⟨by omega, by omega, fun _ _ => by omega, ih (X.length - b.e) (by omega) b.e rfl⟩
    · exact ⟨Nat.le_refl _, Nat.le_refl _, fun z => absurd rfl z, trivial⟩
/-- rest stands k tokens behind -/
def Suf (rest ts : List AT) (k : Nat) : Prop := ∃ pre : List AT, ts = pre ++ rest ∧ k ≤ pre.length ∧ ∀ a ∈ pre, a.k ≠ 0 ∧ a.k ≠ 1
theorem Suf.rf (ts : List AT) : Suf ts ts 0 := ⟨[], rfl, Nat.le_refl _, fun a h => by cases h⟩
theorem Suf.tr {a b c : List AT} {j k : Nat} (h1 : Suf a b j) (h2 : Suf b c k) : Suf a c (j + k) := by
  obtain ⟨p1, e1, l1, n1⟩ := h1
  obtain ⟨p2, e2, l2, n2⟩ := h2
  refine ⟨p2 ++ p1, by rw [e2, e1, List.append_assoc], by simp; omega, fun a ha => ?_⟩
  rcases List.mem_append.mp ha with h | h
  · exact n2 a h
  · exact n1 a h
theorem Suf.le {a b : List AT} {j k : Nat} (h : Suf a b j) (hk : k ≤ j) : Suf a b k := by
  obtain ⟨p, e, l, n⟩ := h
  exact ⟨p, e, by omega, n⟩
theorem Suf.c1 {a : AT} {r : List AT} (h0 : a.k ≠ 0) (h1 : a.k ≠ 1) : Suf r (a :: r) 1 := ⟨[a], rfl, by simp, fun b hb => by rw [List.mem_singleton.mp hb]; exact ⟨h0, h1⟩⟩
theorem Srt.suf {q : Nat} {ts rest : List AT} {k : Nat} (h : Srt q ts) (hs : Suf rest ts k) : Srt (q + k) rest := by
  obtain ⟨pre, e, l, n⟩ := hs
  subst e
  have key : ∀ (pre : List AT) (q : Nat), Srt q (pre ++ rest) → (∀ a ∈ pre, a.k ≠ 0 ∧ a.k ≠ 1) → Srt (q + pre.length) rest := by
    intro pre
    induction pre with
    | nil => intro q h _; exact h
    | cons a pre ih =>
      intro q h n
      have na := n a (List.mem_cons_self ..)
      have := ih a.e h.2.2.2 (fun b hb => n b (List.mem_cons_of_mem _ hb))
      refine this.le ?_
      have := h.1
      have := h.2.2.1 na.1 na.2
      simp only [List.length_cons]
      omega
  exact (key pre q h n).le (by omega)
theorem tk1_suf {c : Int32} (hc : c ≠ 0 ∧ c ≠ 1) {ts r : List AT} {a : AT} (h : tk1 c ts = some (a, r)) : Suf r ts 1 := by
  obtain ⟨e, ek⟩ := tk1_some h
  rw [e]
  exact Suf.c1 (by rw [ek]; exact hc.1) (by rw [ek]; exact hc.2)
theorem tkR_suf {ts : List AT} (h : (tkR ts).1 = 0) : Suf (tkR ts).2.2 ts 1 := by
  cases ts with
  | nil => exact absurd h (by decide)
  | cons a r =>
    have e : tkR (a :: r) = if a.k = 0 ∨ a.k = 1 then (1, 0, []) else if a.k = 2 ∧ 0 ≤ regR a.nm then (0, regR a.nm, r) else (3, 0, []) := rfl
    rw [e] at h ⊢
    split
    · rename_i c; rw [if_pos c] at h; exact absurd h (by decide)
    · rename_i c
      rw [if_neg c] at h
      simp only [not_or] at c
      split
      · exact Suf.c1 c.1 c.2
      · rename_i d; rw [if_neg d] at h; exact absurd h (by decide)
theorem regT_suf {mk : Int32} {ts : List AT} (h : (regT mk ts).1 = 0) : Suf (regT mk ts).2.2 ts 1 := by
  unfold regT at h ⊢
  split
  · rename_i c; rw [if_pos c] at h; exact absurd h c
  · rename_i c
    rw [if_neg c] at h
    have hz := Decidable.not_not.mp c
    split
    · rename_i d; rw [if_pos d] at h; exact absurd (show (3 : Nat) = 0 from h) (by decide)
    · exact tkR_suf hz
/-- an expression takes tokens; one that begins with a sign takes two -/
theorem cmpA_suf : ∀ (n : Nat) (ts : List AT) (w : Bool) (o : Nat) (S : List Int32) (R : List XSt) (S' : List Int32) (R' : List XSt) (o' : Nat) (rest : List AT), cmpA n ts w o S R = some (S', R', o', rest) → Suf rest ts (if w = true then 1 else 0) ∧ (w = true → ∀ a r, ts = a :: r → a.k ≠ 3 → a.k ≠ 4 → a.k ≠ 2 → a.k ≠ 5 → Suf rest ts 2)
  | 0, ts, w, o, S, R, S', R', o', rest, h => by cases ts <;> cases w <;> cases h
  | n + 1, [], w, o, S, R, S', R', o', rest, h => by cases w <;> cases h
  | n + 1, a :: r, true, o, S, R, S', R', o', rest, h => by
    have ih := fun (ts : List AT) (w : Bool) (o : Nat) (S : List Int32) (R : List XSt) (hh : cmpA n ts w o S R = some (S', R', o', rest)) => (cmpA_suf n ts w o S R S' R' o' rest hh).1
    rw [cmpA] at h
    have one : Suf rest r 0 → a.k ≠ 0 → a.k ≠ 1 → (a.k = 3 ∨ a.k = 4 ∨ a.k = 2 ∨ a.k = 5) → Suf rest (a :: r) (if true = true then 1 else 0) ∧ (true = true → ∀ b s, a :: r = b :: s → b.k ≠ 3 → b.k ≠ 4 → b.k ≠ 2 → b.k ≠ 5 → Suf rest (a :: r) 2) := by
      intro hs h0 h1 hk
      refine ⟨(hs.tr (Suf.c1 h0 h1)).le (by simp), fun _ b s e n3 n4 n2 n5 => ?_⟩
      cases e
      rcases hk with z | z | z | z
      · exact absurd z n3
      · exact absurd z n4
      · exact absurd z n2
      · exact absurd z n5
    have two : Suf rest r 1 → a.k ≠ 0 → a.k ≠ 1 → Suf rest (a :: r) (if true = true then 1 else 0) ∧ (true = true → ∀ b s, a :: r = b :: s → b.k ≠ 3 → b.k ≠ 4 → b.k ≠ 2 → b.k ≠ 5 → Suf rest (a :: r) 2) := by
      intro hs h0 h1
      have := hs.tr (Suf.c1 (r := r) h0 h1)
      exact ⟨this.le (by simp), fun _ _ _ _ _ _ _ _ => this⟩
    by_cases c37 : a.k = 37
    · rw [if_pos c37] at h
      match r, h, one, two with
      | [], h, _, _ => cases h
      | [_], h, _, _ => cases h
      | b :: c :: r', h, one, two =>
        have h' : (if AT.k b = 2 ∧ (AT.nm b = hiB ∨ AT.nm b = loB) ∧ AT.k c = 40 then cmpA n r' true (o + 1) (40 :: (if AT.nm b = hiB then 12 else 13) :: S) R else none) = some (S', R', o', rest) := h
        by_cases q : AT.k b = 2 ∧ (AT.nm b = hiB ∨ AT.nm b = loB) ∧ AT.k c = 40
        · rw [if_pos q] at h'
          have h1 := ih _ _ _ _ _ h'
          have h2 := (h1.tr (Suf.c1 (a := c) (r := r') (by rw [q.2.2]; decide) (by rw [q.2.2]; decide))).tr (Suf.c1 (a := b) (r := c :: r') (by rw [q.1]; decide) (by rw [q.1]; decide))
          exact two (h2.le (by simp)) (by rw [c37]; decide) (by rw [c37]; decide)
        · rw [if_neg q] at h'; cases h'
    rw [if_neg c37] at h
    by_cases c3 : a.k = 3 ∨ a.k = 4
    · rw [if_pos c3] at h
      have := ih _ _ _ _ _ h
      exact one (this.le (by simp)) (by rcases c3 with z | z <;> rw [z] <;> decide) (by rcases c3 with z | z <;> rw [z] <;> decide) (by rcases c3 with z | z; exact Or.inl z; exact Or.inr (Or.inl z))
    rw [if_neg c3] at h
    by_cases c2 : a.k = 2
    · rw [if_pos c2] at h
      exact one ((ih _ _ _ _ _ h).le (by simp)) (by rw [c2]; decide) (by rw [c2]; decide) (Or.inr (Or.inr (Or.inl c2)))
    rw [if_neg c2] at h
    by_cases c5 : a.k = 5
    · rw [if_pos c5] at h
      exact one ((ih _ _ _ _ _ h).le (by simp)) (by rw [c5]; decide) (by rw [c5]; decide) (Or.inr (Or.inr (Or.inr c5)))
    rw [if_neg c5] at h
    by_cases c45 : a.k = 45
    · rw [if_pos c45] at h; exact two (ih _ _ _ _ _ h) (by rw [c45]; decide) (by rw [c45]; decide)
    rw [if_neg c45] at h
    by_cases c126 : a.k = 126
    · rw [if_pos c126] at h; exact two (ih _ _ _ _ _ h) (by rw [c126]; decide) (by rw [c126]; decide)
    rw [if_neg c126] at h
    by_cases c40 : a.k = 40
    · rw [if_pos c40] at h; exact two (ih _ _ _ _ _ h) (by rw [c40]; decide) (by rw [c40]; decide)
    rw [if_neg c40] at h
    cases h
  | n + 1, a :: r, false, o, S, R, S', R', o', rest, h => by
    have ih := fun (ts : List AT) (w : Bool) (o : Nat) (S : List Int32) (R : List XSt) (hh : cmpA n ts w o S R = some (S', R', o', rest)) => (cmpA_suf n ts w o S R S' R' o' rest hh).1
    rw [cmpA] at h
    refine ⟨?_, fun z => by cases z⟩
    show Suf rest (a :: r) 0
    by_cases c41 : a.k = 41 ∧ 0 < o
    · rw [if_pos c41] at h
      exact ((ih _ _ _ _ _ h).tr (Suf.c1 (a := a) (r := r) (by rw [c41.1]; decide) (by rw [c41.1]; decide))).le (by simp)
    rw [if_neg c41] at h
    by_cases cl : 0 < levN a.k
    · rw [if_pos cl] at h
      exact ((ih _ _ _ _ _ h).tr (Suf.c1 (a := a) (r := r) (fun z => by rw [z] at cl; exact absurd cl (by decide)) (fun z => by rw [z] at cl; exact absurd cl (by decide)))).le (by simp)
    rw [if_neg cl] at h
    cases h
    exact Suf.rf _
theorem cmpT_suf {ts : List AT} {R : List XSt} {rest : List AT} (h : cmpT ts = some (R, rest)) : Suf rest ts 1 ∧ (∀ a r, ts = a :: r → a.k ≠ 3 → a.k ≠ 4 → a.k ≠ 2 → a.k ≠ 5 → Suf rest ts 2) := by
  unfold cmpT at h
  cases hc : cmpA ts.length ts true 0 [] [] with
  | none => rw [hc] at h; cases h
  | some x =>
    obtain ⟨S', R', o', rest'⟩ := x
    rw [hc] at h
    have h' : (if 0 < o' then none else some ((stl 1 S' R').2, rest')) = some (R, rest) := h
    by_cases q : 0 < o'
    · rw [if_pos q] at h'; cases h'
    · rw [if_neg q] at h'
      cases h'
      have := cmpA_suf _ _ _ _ _ _ _ _ _ _ hc
      exact ⟨this.1, this.2 rfl⟩
theorem shp_suf : ∀ (sh : List Int32) (ts : List AT) (w q : Int32) (R : List XSt), (shp sh ts w q R).1 = 0 → Suf (shp sh ts w q R).2.2.2.2 ts sh.length
  | [], ts, w, q, R, _ => Suf.rf ts
  | c :: sh, ts, w, q, R, h => by
    rw [shp] at h ⊢
    split at h
    · rename_i c1
      rw [if_pos c1]
      split at h
      · rename_i x hx
        have h1 := shp_suf sh x.2 w q R h
        have h2 := tk1_suf (by rcases c1 with z | z | z <;> rw [z] <;> decide) (show tk1 c ts = some (x.1, x.2) from hx)
        exact h1.tr h2
      · exact absurd (show (1 : Nat) = 0 from h) (by decide)
    · rename_i c1
      rw [if_neg c1]
      split at h
      · rename_i c2
        rw [if_pos c2]
        split at h
        · rename_i c3
          rw [if_pos c3]
          exact (shp_suf sh _ _ _ _ h).tr (regT_suf c3)
        · rename_i c3; exact absurd h c3
      · rename_i c2
        rw [if_neg c2]
        split at h
        · rename_i x hx
          exact (shp_suf sh _ _ _ _ h).tr (cmpT_suf (show cmpT ts = some (x.1, x.2) from hx)).1
        · exact absurd (show (1 : Nat) = 0 from h) (by decide)
theorem nmT_suf : ∀ (n : Nat) (ts : List AT), (nmT n ts).1 = 0 → Suf (nmT n ts).2.2 ts 1
  | 0, ts, h => absurd (show (1 : Nat) = 0 from h) (by decide)
  | n + 1, ts, h => by
    simp only [nmT] at h ⊢
    split at h
    · exact absurd (show (1 : Nat) = 0 from h) (by decide)
    · rename_i x hx
      have h1 := (cmpT_suf (show cmpT ts = some (x.1, x.2) from hx)).1
      split at h
      · rename_i c; rw [if_pos c]; exact h1
      · rename_i c
        rw [if_neg c]
        split at h
        · exact absurd (show (1 : Nat) = 0 from h) (by decide)
        · rename_i y hy
          exact ((nmT_suf n y.2 h).tr ((tk1_suf (by decide) (show tk1 44 x.2 = some (y.1, y.2) from hy)).tr h1)).le (by omega)
theorem stT_suf : ∀ (n : Nat) (ts : List AT), (stT n ts).1 = 0 → Suf (stT n ts).2.2 ts 1
  | 0, ts, h => absurd (show (1 : Nat) = 0 from h) (by decide)
  | n + 1, ts, h => by
    simp only [stT] at h ⊢
    split at h
    · exact absurd (show (1 : Nat) = 0 from h) (by decide)
    · rename_i x hx
      have h1 := tk1_suf (by decide) (show tk1 6 ts = some (x.1, x.2) from hx)
      split at h
      · rename_i c; rw [if_pos c]; exact h1
      · rename_i c
        rw [if_neg c]
        split at h
        · exact absurd (show (1 : Nat) = 0 from h) (by decide)
        · rename_i y hy
          exact ((stT_suf n y.2 h).tr ((tk1_suf (by decide) (show tk1 44 x.2 = some (y.1, y.2) from hy)).tr h1)).le (by omega)
theorem f1T_suf {η : Int32 → AT → Int32 × Bool} {lo : AT → Bool} {low high : Int32} {ts : List AT} (h : (f1T η lo low high ts).1 = 0) : Suf (f1T η lo low high ts).2.2 ts 1 := by
  unfold f1T at h ⊢
  split at h
  · exact absurd (show (1 : Nat) = 0 from h) (by decide)
  · rename_i z hz
    split at h
    · rename_i c; exact absurd h c
    · rename_i c; rw [if_neg c]; exact (cmpT_suf (show cmpT ts = some (z.1, z.2) from hz)).1
theorem ldT_suf {η : Int32 → AT → Int32 × Bool} {lo : AT → Bool} {ts : List AT} (h : (ldT η lo ts).1 = 0) : Suf (ldT η lo ts).2.2.2 ts 1 := by
  unfold ldT at h ⊢
  split at h
  · rename_i c; exact absurd h c
  · rename_i c
    rw [if_neg c]
    have h1 := regT_suf (Decidable.not_not.mp c)
    split at h
    · exact absurd (show (1 : Nat) = 0 from h) (by decide)
    · rename_i x hx
      have h2 := tk1_suf (by decide) (show tk1 44 (regT 100 ts).2.2 = some (x.1, x.2) from hx)
      split at h
      · exact absurd (show (1 : Nat) = 0 from h) (by decide)
      · rename_i z hz
        split at h
        · rename_i d; exact absurd h d
        · rename_i d
          rw [if_neg d]
          exact ((cmpT_suf (show cmpT x.2 = some (z.1, z.2) from hz)).1.tr (h2.tr h1)).le (by omega)
theorem eqT_suf {η : Int32 → AT → Int32 × Bool} {lo : AT → Bool} {tk : List Int32 → Bool} {ts : List AT} (h : (eqT η lo tk ts).1 = 0) : Suf (eqT η lo tk ts).2.2.2 ts 1 := by
  unfold eqT at h ⊢
  split at h
  · exact absurd (show (1 : Nat) = 0 from h) (by decide)
  · rename_i x hx
    have h1 := tk1_suf (by decide) (show tk1 2 ts = some (x.1, x.2) from hx)
    split at h
    · exact absurd (show (4 : Nat) = 0 from h) (by decide)
    · rename_i c
      rw [if_neg c]
      split at h
      · exact absurd (show (1 : Nat) = 0 from h) (by decide)
      · rename_i y hy
        have h2 := tk1_suf (by decide) (show tk1 44 x.2 = some (y.1, y.2) from hy)
        split at h
        · exact absurd (show (1 : Nat) = 0 from h) (by decide)
        · rename_i z hz
          split at h
          · rename_i d; exact absurd h d
          · rename_i d
            rw [if_neg d]
            exact ((cmpT_suf (show cmpT y.2 = some (z.1, z.2) from hz)).1.tr (h2.tr h1)).le (by omega)
theorem srO_suf {o : OD} {ts : List AT} (h : (srO o ts).1 = 0) : Suf (srO o ts).2.2.2.2 ts (if o.1 = 9 ∨ o.1 = 10 then 1 else o.2.1.length) := by
  unfold srO at h ⊢
  by_cases c9 : o.1 = 9
  · rw [if_pos c9] at h ⊢
    rw [if_pos (Or.inl c9)]
    split
    · rename_i d; rw [if_pos d] at h; exact (shp_suf _ _ _ _ _ h).le (by simp)
    · rename_i d; rw [if_neg d] at h; exact (shp_suf _ _ _ _ _ h).le (by simp)
  · rw [if_neg c9] at h ⊢
    by_cases c10 : o.1 = 10
    · rw [if_pos c10] at h ⊢
      rw [if_pos (Or.inr c10)]
      split
      · rename_i d; rw [if_pos d] at h; exact (shp_suf _ _ _ _ _ h).le (by simp)
      · rename_i d; rw [if_neg d] at h; exact (shp_suf _ _ _ _ _ h).le (by simp)
    · rw [if_neg c10] at h ⊢
      rw [if_neg (fun z => by rcases z with z | z; exact c9 z; exact c10 z)]
      exact shp_suf _ _ _ _ _ h
/-- how many tokens a statement takes at least -/
def mnT (o : OD) : Nat := if o.1 = 1 ∨ o.1 = 2 then 0 else if o.1 = 0 then o.2.1.length else 1
theorem stm_suf {η : Int32 → AT → Int32 × Bool} {lo : AT → Bool} {tk : List Int32 → Bool} {o : OD} {ts : List AT} (h : (stm η lo tk o ts).1 = 0) : Suf (stm η lo tk o ts).2.2 ts (if roleOk o.1 = true then mnT o else 0) := by
  unfold stm at h ⊢
  unfold mnT
  by_cases c1 : o.1 = 1 ∨ o.1 = 2
  · rw [if_pos c1, if_pos c1]; exact (Suf.rf ts).le (by split <;> exact Nat.le_refl _)
  rw [if_neg c1] at h ⊢
  rw [if_neg c1]
  have le1 : ∀ {a : List AT}, o.1 ≠ 0 → Suf a ts 1 → Suf a ts (if roleOk o.1 = true then (if o.1 = 0 then o.2.1.length else 1) else 0) := by
    intro a h0 hs
    refine hs.le ?_
    rw [if_neg h0]
    split <;> omega
  by_cases c3 : o.1 = 3
  · rw [if_pos c3] at h ⊢; exact le1 (by rw [c3]; decide) (eqT_suf h)
  rw [if_neg c3] at h ⊢
  by_cases c4 : o.1 = 4
  · rw [if_pos c4] at h ⊢; exact le1 (by rw [c4]; decide) (nmT_suf _ _ h)
  rw [if_neg c4] at h ⊢
  by_cases c5 : o.1 = 5
  · rw [if_pos c5] at h ⊢; exact le1 (by rw [c5]; decide) (stT_suf _ _ h)
  rw [if_neg c5] at h ⊢
  by_cases c6 : o.1 = 6
  · rw [if_pos c6] at h ⊢; exact le1 (by rw [c6]; decide) (f1T_suf h)
  rw [if_neg c6] at h ⊢
  by_cases c7 : o.1 = 7
  · rw [if_pos c7] at h ⊢; exact le1 (by rw [c7]; decide) (f1T_suf h)
  rw [if_neg c7] at h ⊢
  by_cases c8 : o.1 = 8
  · rw [if_pos c8] at h ⊢; exact le1 (by rw [c8]; decide) (ldT_suf h)
  rw [if_neg c8] at h ⊢
  refine (srO_suf h).le ?_
  by_cases c0 : o.1 = 0
  · have n9 : ¬ (o.1 = 9 ∨ o.1 = 10) := by rw [c0]; decide
    rw [if_pos c0, if_neg n9]
    split <;> omega
  · rw [if_neg c0]
    by_cases c9 : o.1 = 9 ∨ o.1 = 10
    · rw [if_pos c9]; split <;> omega
    · rw [if_neg c9]
      rw [if_neg (fun z => ?_)]
      · exact Nat.zero_le _
      · unfold roleOk at z
        simp only [List.mem_cons, List.not_mem_nil, or_false, decide_eq_true_eq] at z
        simp only [not_or] at c1 c9
        rcases z with e | e | e | e | e | e | e | e | e | e | e
        · exact c0 e
        · exact c1.1 e
        · exact c1.2 e
        · exact c3 e
        · exact c4 e
        · exact c5 e
        · exact c6 e
        · exact c7 e
        · exact c8 e
        · exact c9.1 e
        · exact c9.2 e
theorem tok_pl {X : List Int32} {q : Nat} {a : AT} {r : List AT} (hl : lexS X q = a :: r) (hk : a.k = 2 ∨ a.k = 3 ∨ a.k = 4 ∨ a.k = 5) : isPl (tw X a.p) = true ∨ a.p + 3 ≤ a.e := by
  induction h : X.length - q using Nat.strongRecOn generalizing q with
  | _ n ih =>
    rw [lexS] at hl
    split at hl
    · rename_i hq
      split at hl
      · exact ih (X.length - (q + 1)) (by omega) hl rfl
      · split at hl
        · exact ih _ (by omega) hl rfl
        · split at hl
          · cases hl; rcases hk with z | z | z | z <;> exact absurd (show (1 : Int32) = _ from z) (by decide)
          · rename_i b hb
            obtain ⟨g1, g2, g3, g4⟩ := tokC_e hq hb
            rw [dif_pos g1] at hl
            injection hl with e1 e2
            subst e1
            rw [g3]
            by_cases hd : isDg (tw X q) = true
            · exact Or.inl (isDg_pl hd)
            by_cases hp : isPl (tw X q) = true
            · exact Or.inl hp
            unfold tokC at hb
            simp only [] at hb
            rw [if_neg hd, if_neg hp] at hb
            by_cases h39 : tw X q = 39
            · rw [if_pos h39] at hb
              unfold chrC at hb
              split at hb
              · rename_i hc2
                cases hb
                right
                show q + 3 ≤ (chrTk (tw X) X.length q).to
                unfold chrTk at hc2 ⊢
                simp only [] at hc2 ⊢
                have hle := shownS_le (tw X) X.length (q + 1) 39
                split at hc2
                · rename_i hcc; rw [if_pos hcc]; show q + 3 ≤ _ + 1; omega
                · exact absurd hc2 (by show ¬ (5 : Int32) = 2; decide)
              · cases hb
            rw [if_neg h39] at hb
            exfalso
            by_cases h34 : tw X q = 34
            · rw [if_pos h34] at hb
              cases hs : strS (tw X) X.length (q + 1) with
              | none => rw [hs] at hb; cases hb
              | some t => rw [hs] at hb; cases hb; rcases hk with z | z | z | z <;> exact absurd (show (6 : Int32) = _ from z) (by decide)
            rw [if_neg h34] at hb
            unfold sgnC at hb
            simp only [] at hb
            have key : ∀ c : Int32, (c = 10 ∨ c = 60 ∨ c = 62 ∨ isSg c = true) → ¬ (c = 2 ∨ c = 3 ∨ c = 4 ∨ c = 5) := by
              intro c hc
              simp only [isSg, decide_eq_true_eq] at hc
              rcases hc with h | h | h | h | h | h | h | h | h | h | h | h | h | h | h | h <;> subst h <;> decide
            split at hb
            · cases hb; rcases hk with z | z | z | z <;> exact absurd (show (0 : Int32) = _ from z) (by decide)
            · split at hb
              · rename_i h6
                split at hb
                · cases hb
                  exact key (tw X q) (by rcases h6 with z | z; exact Or.inr (Or.inl z); exact Or.inr (Or.inr (Or.inl z))) hk
                · cases hb
              · split at hb
                · rename_i hs
                  cases hb
                  exact key (tw X q) (Or.inr (Or.inr (Or.inr hs))) hk
                · cases hb
    · cases hl; rcases hk with z | z | z | z <;> exact absurd (show (0 : Int32) = _ from z) (by decide)
theorem shortN : ∀ k, k < 128 → (M_names k < 4096 → 1 ≤ mnT (od (M_shapes k) (M_patterns k ||| 0))) ∧ (M_names k < 64 → (od (M_shapes k) (M_patterns k ||| 0)).1 = 0 ∧ (od (M_shapes k) (M_patterns k ||| 0)).2.1 = [120]) := by decide +kernel
theorem pk_short {nm : List Int32} (hpl : ∀ c ∈ nm, isPl c = true) {n : Nat} (hn : nm.length = n) (h2 : n ≤ 2) : pk nm = 0 ∨ (pk nm < lN (64 ^ n)) := by
  by_cases hv : ∀ c ∈ nm, vc c = true
  · right
    obtain ⟨e1, e2⟩ := pk_lN hv (by omega)
    have e3 := pkM_lt nm hv
    rw [hn] at e3
    have hb : 64 ^ n ≤ 4096 := by
      have := Nat.pow_le_pow_right (n := 64) (by decide) h2
      exact this
    rw [e1, Int64.lt_iff_toInt_lt, lN_ti (by omega), lN_ti (by omega)]
    omega
  · left
    simp only [Classical.not_forall] at hv
    obtain ⟨c, hc, hcv⟩ := hv
    unfold pk
    rw [if_neg (by omega)]
    refine pkR_bad _ _ ⟨c, by simpa using hc, ?_⟩
    unfold vc at hcv
    rw [hpl c hc] at hcv
    simpa using hcv
theorem names_n0 : nmd 0 = none := by decide +kernel
theorem opO_short {nm : List Int32} (hpl : ∀ c ∈ nm, isPl c = true) {o : OD} (h : opO nm = some o) (h2 : nm.length ≤ 2) : 1 ≤ mnT o ∧ (nm.length ≤ 1 → o.1 = 0 ∧ o.2.1 = [120]) := by
  have hs : sfx nm = 0 := by
    unfold sfx sfx3
    rw [if_neg (fun z => by omega), if_neg (fun z => by omega)]
  unfold opO opk at h
  cases hn : nmd (pk nm) with
  | none =>
    rw [hn] at h
    simp only [] at h
    rw [if_pos hs] at h
    cases h
  | some k =>
    rw [hn] at h
    have hk := nmdA_lt _ _ _ _ hn
    simp only [Option.map_some, Option.some.injEq] at h
    rw [← h]
    have ht := shortN k (by omega)
    have hz : pk nm ≠ 0 := by
      intro z
      rw [z, names_n0] at hn
      cases hn
    constructor
    · refine ht.1 ?_
      rw [hk.2.2]
      rcases pk_short hpl rfl h2 with e | e
      · exact absurd e hz
      · have hb : 64 ^ nm.length ≤ 4096 := by
          have := Nat.pow_le_pow_right (n := 64) (by decide) h2
          exact this
        rw [Int64.lt_iff_toInt_lt, lN_ti (by omega)] at e
        rw [Int64.lt_iff_toInt_lt, show (4096 : Int64).toInt = 4096 from rfl]
        omega
    · intro h1
      refine ht.2 ?_
      rw [hk.2.2]
      rcases pk_short hpl rfl h2 with e | e
      · exact absurd e hz
      · have hb : 64 ^ nm.length ≤ 64 := by
          have := Nat.pow_le_pow_right (n := 64) (by decide) h1
          exact this
        rw [Int64.lt_iff_toInt_lt, lN_ti (by omega)] at e
        rw [Int64.lt_iff_toInt_lt, show (64 : Int64).toInt = 64 from rfl]
        omega
/-- a statement takes three letters at least -/
theorem stm_span {X : List Int32} {a : AT} {r : List AT} (hl : lexS X a.p = a :: r) (hk : a.k = 2) {o : OD} (ho : opO a.nm = some o) (hro : roleOk o.1 = true) {η : Int32 → AT → Int32 × Bool} {lo : AT → Bool} {tk : List Int32 → Bool} (hz : (stm η lo tk o r).1 = 0) : Srt (a.p + 3) (stm η lo tk o r).2.2 := by
  obtain ⟨hTF, hr⟩ := lexS_F hl (by rw [hk]; decide) (by rw [hk]; decide)
  obtain ⟨g1, g2, g3, g4, g5⟩ := hTF.2.2.2 hk
  have hpl : ∀ c ∈ a.nm, isPl c = true := by
    rw [g1]
    exact cut_pl X (by have := hTF.2.1; have := hTF.2.2.1; omega) (by omega)
  have hlen : a.nm.length = a.e - a.p := by rw [g1, cut_len X hTF.2.2.1]
  have hae := hTF.2.1
  have hS : Srt a.e r := by rw [hr]; exact lexS_srt X a.e
  have hsf := stm_suf hz
  rw [if_pos hro] at hsf
  have h1 := hS.suf hsf
  by_cases c3 : 3 ≤ a.nm.length
  · exact h1.le (by omega)
  have hs := opO_short hpl ho (by omega)
  by_cases c2 : a.nm.length = 2
  · exact h1.le (by omega)
  have hs1 := hs.2 (by omega)
  -- j and its target
  have es : stm η lo tk o r = ((srO o r).1, sI (srO o r), (srO o r).2.2.2.2) := by
    unfold stm
    rw [if_neg (by rw [hs1.1]; decide), if_neg (by rw [hs1.1]; decide), if_neg (by rw [hs1.1]; decide), if_neg (by rw [hs1.1]; decide), if_neg (by rw [hs1.1]; decide), if_neg (by rw [hs1.1]; decide), if_neg (by rw [hs1.1]; decide)]
  have eo : srO o r = shp [120] r o.2.2 0 [] := by
    unfold srO
    rw [if_neg (by rw [hs1.1]; decide), if_neg (by rw [hs1.1]; decide), hs1.2]
  rw [es, eo] at hz ⊢
  rw [shp_1 (by simp)] at hz ⊢
  cases hc : cmpT r with
  | none => rw [hc] at hz; exact absurd (show (1 : Nat) = 0 from hz) (by decide)
  | some x =>
    show Srt (a.p + 3) x.2
    obtain ⟨f1, f2⟩ := cmpT_suf (show cmpT r = some (x.1, x.2) from hc)
    obtain ⟨b, s, eb⟩ := lexS_ne X a.e
    have erb : r = b :: s := hr.trans eb
    by_cases kb : b.k = 2 ∨ b.k = 3 ∨ b.k = 4 ∨ b.k = 5
    · have hb0 : b.k ≠ 0 ∧ b.k ≠ 1 := by rcases kb with z | z | z | z <;> rw [z] <;> decide
      have hSb : Srt a.e (b :: s) := by rw [← erb]; exact hS
      have hbe : a.p + 3 ≤ b.e := by
        have q1 := hSb.1
        have q2 := hSb.2.2.1 hb0.1 hb0.2
        rcases tok_pl eb kb with z | z
        · have : b.p ≠ a.e := by
            intro e
            rw [e, g2] at z
            have hlt : pend (tw X) X.length a.p < X.length := by
              have := (lexS_F eb hb0.1 hb0.2).1
              have := this.2.1
              have := (lexS_F eb hb0.1 hb0.2).1.2.2.1
              omega
            have := pend_stop (tw X) X.length a.p hlt
            rw [z] at this
            cases this
          omega
        · omega
      obtain ⟨pre, e1, e2, e3⟩ := f1
      rw [erb] at e1
      cases pre with
      | nil => simp at e2
      | cons c pre =>
        simp only [List.cons_append, List.cons.injEq] at e1
        have hSs : Srt b.e s := hSb.2.2.2
        have : Srt (b.e + 0) x.2 := hSs.suf ⟨pre, e1.2, Nat.zero_le _, fun y hy => e3 y (List.mem_cons_of_mem _ hy)⟩
        exact this.le (by omega)
    · simp only [not_or] at kb
      have := hS.suf (f2 b s erb kb.2.1 kb.2.2.1 kb.1 kb.2.2.2)
      exact this.le (by omega)
