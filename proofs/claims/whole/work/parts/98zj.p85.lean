/-! ===== the class's places ===== -/
abbrev Sl : Type := Nat × AI
def plS : AI := (1, 0, 0, [], [])
def slE (e : Ev) : List Sl := if e.1 = 2 then [] else if e.1 = 5 then e.2.2.2.2.2.map (fun it => (e.2.2.2.1, it)) else [(e.2.2.2.1, plS)]
def slA (E : List Ev) : List Sl := List.replicate 10 (0, plS) ++ E.flatMap slE
def stI (s : Sz) (x : Sl) : Sz := if x.1 = 1 then (s.1, s.2 + lenI s.2 x.2) else (s.1 + lenI s.1 x.2, s.2)
theorem slE_len (e : Ev) : (slE e).length = nit e := by
  unfold slE nit
  split
  · rfl
  · split
    · rw [List.length_map]
    · rfl
theorem slA_len (E : List Ev) : (slA E).length = cI E := by
  unfold slA cI
  rw [List.length_append, List.length_replicate]
  congr 1
  induction E with
  | nil => rfl
  | cons e r ih => rw [List.flatMap_cons, List.length_append, slE_len, ih, List.map_cons, List.sum_cons]
theorem slA_app (E F : List Ev) : slA (E ++ F) = slA E ++ F.flatMap slE := by
  unfold slA
  rw [List.flatMap_append, List.append_assoc]
theorem stI_its (sec : Nat) : ∀ (its : List AI) (s : Sz), (its.map (fun it => (sec, it))).foldl stI s = if sec = 1 then (s.1, s.2 + szL s.2 its) else (s.1 + szL s.1 its, s.2)
  | [], s => by
    show s = _
    split
    · rw [szL]; rfl
    · rw [szL]; rfl
  | i :: r, s => by
    rw [List.map_cons, List.foldl_cons, stI_its sec r]
    by_cases h : sec = 1
    · have e : stI s (sec, i) = (s.1, s.2 + lenI s.2 i) := if_pos h
      rw [e, if_pos h, if_pos h]
      show (s.1, s.2 + lenI s.2 i + szL (s.2 + lenI s.2 i) r) = (s.1, s.2 + (lenI s.2 i + szL (s.2 + lenI s.2 i) r))
      rw [Nat.add_assoc]
    · have e : stI s (sec, i) = (s.1 + lenI s.1 i, s.2) := if_neg h
      rw [e, if_neg h, if_neg h]
      show (s.1 + lenI s.1 i + szL (s.1 + lenI s.1 i) r, s.2) = (s.1 + (lenI s.1 i + szL (s.1 + lenI s.1 i) r), s.2)
      rw [Nat.add_assoc]
theorem stI_pl (s : Sz) (sec : Nat) : stI s (sec, plS) = s := by
  unfold stI
  have : ∀ o, lenI o plS = 0 := fun o => rfl
  split
  · rw [this]; rfl
  · rw [this]; rfl
theorem slE_fold {e : Ev} (h : e.1 ≠ 5 → e.2.2.2.2.2 = []) (s : Sz) : (slE e).foldl stI s = stepE s e := by
  unfold slE stepE
  by_cases h5 : e.1 = 5
  · rw [if_neg (by omega), if_pos h5]; exact stI_its _ _ _
  · rw [h h5]
    by_cases h2 : e.1 = 2
    · rw [if_pos h2]
      show s = _
      split <;> (rw [szL]; rfl)
    · rw [if_neg h2, if_neg h5]
      show stI s _ = _
      rw [stI_pl]
      split <;> (rw [szL]; rfl)
theorem slF_fold : ∀ (E : List Ev), (∀ e ∈ E, e.1 ≠ 5 → e.2.2.2.2.2 = []) → ∀ s, (E.flatMap slE).foldl stI s = lay s E
  | [], _, s => rfl
  | e :: E, h, s => by
    rw [List.flatMap_cons, List.foldl_append, slE_fold (h e List.mem_cons_self), slF_fold E (fun x hx => h x (List.mem_cons_of_mem _ hx)), lay_cons]
theorem slN (s : Sz) : ∀ n, (List.replicate n ((0 : Nat), plS)).foldl stI s = s
  | 0 => rfl
  | n + 1 => by rw [List.replicate_succ, List.foldl_cons, stI_pl, slN s n]
theorem slA_fold {E : List Ev} (h : ∀ e ∈ E, e.1 ≠ 5 → e.2.2.2.2.2 = []) : (slA E).foldl stI (0, 0) = lay (0, 0) E := by
  unfold slA
  rw [List.foldl_append, slN, slF_fold E h]
theorem stI_mono (s : Sz) (x : Sl) : s.1 ≤ (stI s x).1 ∧ s.2 ≤ (stI s x).2 := by
  unfold stI
  split
  · exact ⟨Nat.le_refl _, by simp only []; omega⟩
  · exact ⟨by simp only []; omega, Nat.le_refl _⟩
theorem stF_mono : ∀ (l : List Sl) (s : Sz), s.1 ≤ (l.foldl stI s).1 ∧ s.2 ≤ (l.foldl stI s).2
  | [], s => ⟨Nat.le_refl _, Nat.le_refl _⟩
  | x :: l, s => by
    rw [List.foldl_cons]
    have h1 := stI_mono s x
    have h2 := stF_mono l (stI s x)
    omega
/-- an item in front of its place: section, mark, length, word -/
def MemS (sI : CS) (k : Nat) (x : Sl) : Prop := sI.2.1 (k + 1) 1 = b2 (decide (x.1 = 1)) ∧ sI.2.1 (k + 1) 2 = x.2.1 ∧ (x.2.1 ≠ 3 → sI.2.1 (k + 1) 4 = nI x.2.2.2.1) ∧ (x.2.1 = 3 → ∃ e, e ≤ 10 ∧ x.2.2.1 = nI e ∧ sI.2.1 (k + 1) 3 = nI e)
def PlcP (k : Nat) (r : List Sl) (s : Sz) (sP sI sP' sI' : CS) : Prop :=
  sP'.1 2 = nI (r.foldl stI s).1 ∧ sP'.1 7 = nI (r.foldl stI s).2 ∧ sP'.1 3 = nI (baseN (r.foldl stI s).1) ∧ (∀ j, j ≠ 2 → j ≠ 3 → j ≠ 7 → sP'.1 j = sP.1 j) ∧ sP'.2 = sP.2 ∧ sI'.1 = sI.1 ∧ sI'.2.2 = sI.2.2 ∧ (∀ q j, j ≠ 4 → j ≠ 5 → sI'.2.1 q j = sI.2.1 q j) ∧ (∀ q, q ≤ k ∨ k + r.length < q → sI'.2.1 q = sI.2.1 q) ∧ ∀ i x, r[i]? = some x → sI'.2.1 (k + i + 1) 5 = nI (offS ((r.take i).foldl stI s) x.1) ∧ sI'.2.1 (k + i + 1) 4 = nI (lenI (offS ((r.take i).foldl stI s) x.1) x.2)
theorem cA_at (σ : CS) (k i : Nat) (v : Int32) : (cA σ k i v).2.1 k i = v := by
  unfold cA upd
  simp only []
  rw [if_pos trivial, if_pos rfl]
theorem cA_f (σ : CS) {k i j : Nat} (v : Int32) (h : j ≠ i) : (cA σ k i v).2.1 k j = σ.2.1 k j := by
  unfold cA upd
  simp only []
  rw [if_pos trivial, if_neg h]
theorem cA_o (σ : CS) {k i q : Nat} (v : Int32) (h : q ≠ k) : (cA σ k i v).2.1 q = σ.2.1 q := by
  unfold cA
  simp only []
  rw [if_neg h]
theorem cF_o (σ : CS) {i j : Nat} (v : Int32) (h : j ≠ i) : (cF σ i v).1 j = σ.1 j := if_neg h
theorem C_place12 (N : Nat) : ∀ (r : List Sl) (k : Nat) (s : Sz) (m : Nat) (sP sI : CS), (∀ i x, r[i]? = some x → MemS sI (k + i) x) → sP.1 2 = nI s.1 → sP.1 7 = nI s.2 → sP.1 1 = nI (k + r.length) → LOk sI (k + r.length) → r.length < m → (r.foldl stI s).1 < 2 ^ 30 → (r.foldl stI s).2 < 2 ^ 30 → ∃ sP' sI', C_Prg_place_12 N m (nI k) sP sI = some (0, (sP', sI')) ∧ PlcP k r s sP sI sP' sI'
  | [], k, s, m, sP, sI, _, h2, h7, h1, hL, hm, hb1, hb2 => by
    obtain ⟨m', rfl⟩ : ∃ m', m = m' + 1 := ⟨m - 1, by omega⟩
    simp only [C_Prg_place_12]
    rw [if_pos (by rw [h1]; exact Int32.le_refl _), gd_t (by decide)]
    refine ⟨_, _, rfl, by rw [cF_o _ _ (by decide)]; exact h2, by rw [cF_o _ _ (by decide)]; exact h7, ?_, fun j a b c => cF_o _ _ b, rfl, rfl, rfl, fun _ _ _ _ => rfl, fun _ _ => rfl, fun i x hx => ?_⟩
    · rw [cF_at, h2]
      have hs : s.1 < 2 ^ 30 := hb1
      show ((nI s.1 + nI 1024 - nI 1) / 1024) * 1024 = nI (baseN s.1)
      rw [nI_add, pk_sub (by omega), div_1024 (by omega), mul_1024]
      rfl
    · rw [List.getElem?_nil] at hx; cases hx
  | x :: r, k, s, m, sP, sI, hM, h2, h7, h1, hL, hm, hb1, hb2 => by
    obtain ⟨m', rfl⟩ : ∃ m', m = m' + 1 := ⟨m - 1, by omega⟩
    simp only [List.length_cons] at h1 hL hm
    have hL5 := hL.2.2.1
    have hLc := hL.1
    obtain ⟨m1, m2, m3, m4⟩ := hM 0 x rfl
    rw [Nat.add_zero] at m1 m2 m3 m4
    have hmono := stF_mono r (stI s x)
    rw [List.foldl_cons] at hb1 hb2
    have hst := stI_mono s x
    obtain ⟨f1, f2⟩ := C_find h1 hL (nI k)
    rw [fnI_nI (by omega) (by omega)] at f1 f2
    simp only [C_Prg_place_12]
    rw [if_neg (by rw [h1]; exact fun z => absurd ((nI_leI (by omega) (by omega)).mp z) (by omega)), f1]
    simp only [cr, Option.bind_some]
    rw [gd_t (decide_eq_true f2)]
    -- the two sections alike
    have key : ∀ (off : Nat), off = offS s x.1 → ∃ sP' sI', C_Prg_place_45 N (C_Prg_place_12 N m') (nI k) (k + 1) (k + 1) (nI off) sP sI = some (0, (sP', sI')) ∧ PlcP k (x :: r) s sP sI sP' sI' := by
      intro off ho
      have hoff : off < 2 ^ 30 := by rw [ho]; unfold offS; split <;> omega
      -- the item with its place and length
      have step : ∀ sI2 : CS, sI2.1 = sI.1 → sI2.2.2 = sI.2.2 → (∀ q, q ≠ k + 1 → sI2.2.1 q = sI.2.1 q) → (∀ j, j ≠ 4 → j ≠ 5 → sI2.2.1 (k + 1) j = sI.2.1 (k + 1) j) → sI2.2.1 (k + 1) 5 = nI off → sI2.2.1 (k + 1) 4 = nI (lenI off x.2) → ∃ sP' sI', C_Prg_place_74 N (C_Prg_place_12 N m') (nI k) (k + 1) sP sI2 = some (0, (sP', sI')) ∧ PlcP k (x :: r) s sP sI sP' sI' := by
        intro sI2 e0 e1 e2 e3 e4 e5
        have hL2 : LOk sI2 (k + (r.length + 1)) := by unfold LOk; rw [e1]; exact hL
        have hcap : k + 1 < sI2.2.2 0 + 1 := by rw [e1]; exact f2
        have hM2 : ∀ i y, r[i]? = some y → MemS sI2 (k + 1 + i) y := by
          intro i y hy
          have := hM (i + 1) y hy
          unfold MemS at this ⊢
          rw [show k + 1 + i = k + (i + 1) by omega, e2 _ (by omega)]
          exact this
        have fin : ∀ sP2 : CS, sP2.1 2 = nI (stI s x).1 → sP2.1 7 = nI (stI s x).2 → (∀ j, j ≠ 2 → j ≠ 7 → sP2.1 j = sP.1 j) → sP2.2 = sP.2 → ∃ sP' sI', C_Prg_place_110 N (C_Prg_place_12 N m') (nI k) sP2 sI2 = some (0, (sP', sI')) ∧ PlcP k (x :: r) s sP sI sP' sI' := by
          intro sP2 g1 g2 g3 g4
          obtain ⟨sP', sI', c1, c2, c3, c4, c5, c6, c6', c7, c8, c9, c10⟩ := C_place12 N r (k + 1) (stI s x) m' sP2 sI2 hM2 g1 g2 (by rw [g3 1 (by decide) (by decide), h1]; congr 1; omega) (by rw [show k + 1 + r.length = k + (r.length + 1) by omega]; exact hL2) (by omega) hb1 hb2
          refine ⟨sP', sI', ?_, c2, c3, c4, fun j a b c => (c5 j a b c).trans (g3 j a c), c6.trans g4, c6'.trans e0, c7.trans e1, fun q j a b => ?_, fun q hq => ?_, fun i y hy => ?_⟩
          · unfold C_Prg_place_110
            rw [show nI k + 1 = nI (k + 1) from nI_add k 1]
            exact c1
          · rw [c8 q j a b]
            by_cases hqk : q = k + 1
            · rw [hqk]; exact e3 j a b
            · rw [e2 q hqk]
          · simp only [List.length_cons] at hq
            rw [c9 q (by omega), e2 q (by omega)]
          · cases i with
            | zero =>
              have hxy : x = y := by simpa using hy
              rw [← hxy]
              rw [Nat.add_zero, c9 (k + 1) (by omega)]
              show _ = nI (offS s x.1) ∧ _ = nI (lenI (offS s x.1) x.2)
              rw [← ho]
              exact ⟨e4, e5⟩
            | succ i =>
              have := c10 i y hy
              rw [show k + 1 + i + 1 = k + (i + 1) + 1 by omega] at this
              exact this
        unfold C_Prg_place_74
        rw [gd_t (decide_eq_true hcap), gd_t (decide_eq_true hcap), gd_t (decide_eq_true hcap)]
        have m1' : sI2.2.1 (k + 1) 1 = b2 (decide (x.1 = 1)) := by rw [e3 1 (by decide) (by decide)]; exact m1
        by_cases hx1 : x.1 = 1
        · rw [m1', decide_eq_true hx1, if_neg (by decide)]
          have ho2 : off = s.2 := by rw [ho]; unfold offS; rw [if_pos hx1]
          exact fin _ (by rw [cF_o _ _ (by decide), h2]; unfold stI; rw [if_pos hx1]) (by rw [cF_at, h7, e5, nI_add]; unfold stI; rw [if_pos hx1, ho2]) (fun j a b => cF_o _ _ b) rfl
        · rw [m1', decide_eq_false hx1, if_pos (by decide)]
          have ho2 : off = s.1 := by rw [ho]; unfold offS; rw [if_neg hx1]
          exact fin _ (by rw [cF_at, h2, e5, nI_add]; unfold stI; rw [if_neg hx1, ho2]) (by rw [cF_o _ _ (by decide), h7]; unfold stI; rw [if_neg hx1]) (fun j a b => cF_o _ _ a) rfl
      unfold C_Prg_place_45
      rw [gd_t (decide_eq_true f2)]
      show ∃ sP' sI', gd _ _ = _ ∧ _
      have f2' : k + 1 < (cA sI (k + 1) 5 (nI off)).2.2 0 + 1 := f2
      rw [gd_t (decide_eq_true f2')]
      have hmk : (cA sI (k + 1) 5 (nI off)).2.1 (k + 1) 2 = x.2.1 := by rw [cA_f _ _ (by decide)]; exact m2
      rw [hmk]
      by_cases h3 : x.2.1 = 3
      · rw [if_pos h3, gd_t (decide_eq_true f2'), gd_t (decide_eq_true f2'), gd_t (decide_eq_true f2')]
        obtain ⟨e, he, ew, em⟩ := m4 h3
        show ∃ sP' sI', C_Prg_place_74 _ _ _ _ _ _ = _ ∧ _
        refine step _ rfl rfl (fun q hq => by rw [cA_o _ _ hq, cA_o _ _ hq]) (fun j a b => by rw [cA_f _ _ a, cA_f _ _ b]) (by rw [cA_f _ _ (by decide), cA_at]) ?_
        rw [cA_at, cA_at, cA_f _ _ (by decide), em, neg_and (by omega) he]
        unfold lenI
        rw [if_pos h3, ew, nI_clamp (by omega)]
      · rw [if_neg h3]
        refine step _ rfl rfl (fun q hq => by rw [cA_o _ _ hq]) (fun j a b => by rw [cA_f _ _ b]) (by rw [cA_at]) ?_
        rw [cA_f _ _ (by decide), m3 h3]
        unfold lenI
        rw [if_neg h3]
    by_cases hx1 : x.1 = 1
    · rw [m1, decide_eq_true hx1, if_neg (by decide), h7]
      exact key _ (by unfold offS; rw [if_pos hx1])
    · rw [m1, decide_eq_false hx1, if_pos (by decide), h2]
      exact key _ (by unfold offS; rw [if_neg hx1])
