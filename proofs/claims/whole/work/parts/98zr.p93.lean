/-! ===== letters are bytes; which items stand alone ===== -/
theorem n255 : ∀ k, k < 128 → (nI k) &&& 255 = nI k := by decide +kernel
theorem ch_ok {X : List Int32} (hV : ∀ c ∈ X, okT c) (p : Nat) : ∃ k, k < 128 ∧ ch (tw X) X.length p = nI k := by
  by_cases hp : p < X.length
  · rw [ch_in hp]
    have hm : tw X p ∈ X := by show X.getD p 0 ∈ X; rw [gD_e hp]; exact List.getElem_mem _
    obtain ⟨k, hk, e⟩ := okT_nI (hV _ hm)
    exact ⟨k, by omega, e⟩
  · rw [ch_end (by omega)]
    exact ⟨10, by omega, rfl⟩
theorem shown_255 {X : List Int32} (hV : ∀ c ∈ X, okT c) {p : Nat} {q : Int32} (h : ¬ (shownS (tw X) X.length p q).1 < 0) : (shownS (tw X) X.length p q).1 &&& 255 = (shownS (tw X) X.length p q).1 := by
  unfold shownS at h ⊢
  simp only [] at h ⊢
  by_cases c10 : ch (tw X) X.length p = 10
  · rw [if_pos c10] at h; exact absurd (show ((-1 : Int32) < 0) by decide) h
  rw [if_neg c10] at h ⊢
  by_cases cq : ch (tw X) X.length p = q
  · rw [if_pos cq] at h; exact absurd (show ((-1 : Int32) < 0) by decide) h
  rw [if_neg cq] at h ⊢
  by_cases c92 : ch (tw X) X.length p = 92
  · rw [if_pos c92] at h ⊢
    simp only [] at h ⊢
    obtain ⟨k, hk, e⟩ := ch_ok hV (p + 1)
    rw [e] at h ⊢
    split
    · decide
    · split
      · decide
      · split
        · decide
        · split
          · exact n255 k hk
          · split
            · exact n255 k hk
            · split
              · exact n255 k hk
              · rename_i a1 a2 a3 a4 a5 a6
                rw [if_neg a1, if_neg a2, if_neg a3, if_neg a4, if_neg a5, if_neg a6] at h
                exact absurd (show ((-1 : Int32) < 0) by decide) h
  · rw [if_neg c92]
    obtain ⟨k, hk, e⟩ := ch_ok hV p
    simp only []
    rw [e]
    exact n255 k hk
theorem strS_255 {X : List Int32} (hV : ∀ c ∈ X, okT c) : ∀ (m k : Nat), X.length - k ≤ m → ∀ s e, strS (tw X) X.length k = some (s, e) → ∀ c ∈ s, c &&& 255 = c := by
  intro m
  induction m with
  | zero =>
    intro k hm s e h
    rw [strS] at h
    split at h
    · cases h; intro c hc; cases hc
    · split at h
      · cases h
      · rw [dif_neg (by omega)] at h; cases h
  | succ m ih =>
    intro k hm s e h
    have hle := shownS_le (tw X) X.length k 34
    rw [strS] at h
    split at h
    · cases h; intro c hc; cases hc
    · split at h
      · cases h
      · rename_i hn
        by_cases hk : k < X.length
        · rw [dif_pos hk] at h
          cases hs : strS (tw X) X.length (shownS (tw X) X.length k 34).2 with
          | none => rw [hs] at h; cases h
          | some z =>
            rw [hs] at h
            obtain ⟨s', e'⟩ := z
            cases h
            intro c hc
            rcases List.mem_cons.mp hc with rfl | hc
            · exact shown_255 hV hn
            · exact ih _ (by omega) s' e' hs c hc
        · rw [dif_neg hk] at h; cases h
def T6 (a : AT) : Prop := a.k = 6 → ∀ c ∈ a.s, c &&& 255 = c
theorem lexS_T6 {X : List Int32} (hV : ∀ c ∈ X, okT c) {q : Nat} {a : AT} {r : List AT} (hl : lexS X q = a :: r) : T6 a := fun h6 => by
  obtain ⟨h1, -⟩ := lexS_6 hl h6
  exact strS_255 hV _ _ (Nat.le_refl _) _ _ h1
theorem T6_lex {X : List Int32} (hV : ∀ c ∈ X, okT c) (q : Nat) : ∀ a ∈ lexS X q, T6 a := by
  induction h : X.length - q using Nat.strongRecOn generalizing q with
  | _ n ih =>
    obtain ⟨a, r, e⟩ := lexS_ne X q
    have eL := e
    have first : T6 a := lexS_T6 hV eL
    rw [lexS] at e
    split at e
    · rename_i hq
      split at e
      · rw [eL, ← e]; exact ih (X.length - (q + 1)) (by omega) (q + 1) rfl
      · split at e
        · rw [eL, ← e]; exact ih _ (by omega) _ rfl
        · split at e
          · rw [eL]
            cases e
            intro z hz k
            rcases List.mem_cons.mp hz with rfl | hz
            · exact absurd k (show ¬ (1 : Int32) = 6 by decide)
            · rw [List.mem_singleton.mp hz] at k
              exact absurd k (show ¬ (0 : Int32) = 6 by decide)
          · rename_i b hb
            obtain ⟨g1, g2, g3, g4⟩ := tokC_e hq hb
            rw [dif_pos g1] at e
            injection e with e1 e2
            rw [eL]
            intro z hz
            rcases List.mem_cons.mp hz with rfl | hz
            · exact first
            · rw [← e2] at hz
              exact ih _ (by omega) _ rfl z hz
    · rw [eL]
      cases e
      intro z hz k
      rw [List.mem_singleton.mp hz] at k
      exact absurd k (show ¬ (0 : Int32) = 6 by decide)
theorem stT_mem : ∀ (n : Nat) (ts : List AT), ∀ s ∈ (stT n ts).2.1, ∃ a ∈ ts, AT.k a = 6 ∧ AT.s a = s
  | 0, ts => fun s hs => by cases hs
  | n + 1, ts => by
    rw [stT]
    cases hc : tk1 6 ts with
    | none => intro s hs; cases hs
    | some z =>
      obtain ⟨a, rest⟩ := z
      simp only []
      obtain ⟨e1, e2⟩ := tk1_some hc
      have ha : a ∈ ts := by rw [e1]; exact List.mem_cons_self
      by_cases hE : atE rest = true
      · rw [if_pos hE]
        intro s hs
        exact ⟨a, ha, e2, (List.mem_singleton.mp hs).symm⟩
      · rw [if_neg hE]
        cases ht : tk1 44 rest with
        | none => intro s hs; cases hs
        | some q =>
          simp only []
          obtain ⟨f1, -⟩ := tk1_some ht
          intro s hs
          rcases List.mem_cons.mp hs with e | e
          · exact ⟨a, ha, e2, e.symm⟩
          · obtain ⟨b, hb, hb2⟩ := stT_mem n q.2 s e
            exact ⟨b, by rw [e1, f1]; exact List.mem_cons_of_mem _ (List.mem_cons_of_mem _ hb), hb2⟩
theorem od_no4 (s w : Int32) : ((od s w).2.1.all (fun c => decide (c ≠ 4))) = true := by
  unfold od
  by_cases c1 : s = 1
  · rw [if_pos c1]; rfl
  rw [if_neg c1]
  by_cases c2 : s = 2
  · rw [if_pos c2]; rfl
  rw [if_neg c2]
  by_cases c3 : s = 3
  · rw [if_pos c3]; rfl
  rw [if_neg c3]
  by_cases c4 : s = 4
  · rw [if_pos c4]; rfl
  rw [if_neg c4]
  by_cases c5 : s = 5
  · rw [if_pos c5]; rfl
  rw [if_neg c5]
  by_cases c6 : s = 6
  · rw [if_pos c6]; rfl
  rw [if_neg c6]
  by_cases c7 : s = 7
  · rw [if_pos c7]; rfl
  rw [if_neg c7]
  by_cases c8 : s = 8
  · rw [if_pos c8]; rfl
  rw [if_neg c8]
  by_cases c9 : s = 9
  · rw [if_pos c9]; rfl
  rw [if_neg c9]
  by_cases c10 : s = 10
  · rw [if_pos c10]; rfl
  rw [if_neg c10]
  by_cases c11 : s = 11
  · rw [if_pos c11]; rfl
  rw [if_neg c11]
  by_cases c12 : s = 12
  · rw [if_pos c12]; rfl
  rw [if_neg c12]
  by_cases c13 : s = 13
  · rw [if_pos c13]; rfl
  rw [if_neg c13]
  by_cases c14 : s = 14
  · rw [if_pos c14]; rfl
  rw [if_neg c14]
  by_cases c16 : s = 16
  · rw [if_pos c16]; rfl
  rw [if_neg c16]
  by_cases c17 : s = 17
  · rw [if_pos c17]; rfl
  rw [if_neg c17]
  by_cases c18 : s = 18
  · rw [if_pos c18]; rfl
  rw [if_neg c18]
  by_cases c19 : s = 19
  · rw [if_pos c19]; rfl
  rw [if_neg c19]
  by_cases c20 : s = 20
  · rw [if_pos c20]; rfl
  rw [if_neg c20]
  by_cases c21 : s = 21
  · rw [if_pos c21]; rfl
  rw [if_neg c21]
  by_cases c22 : s = 22
  · rw [if_pos c22]; rfl
  rw [if_neg c22]
  by_cases c23 : s = 23
  · rw [if_pos c23]; rfl
  rw [if_neg c23]
  by_cases c24 : s = 24
  · rw [if_pos c24]; rfl
  rw [if_neg c24]
  by_cases c25 : s = 25
  · rw [if_pos c25]; rfl
  rw [if_neg c25]
  by_cases c26 : s = 26
  · rw [if_pos c26]; rfl
  rw [if_neg c26]
  by_cases c27 : s = 27
  · rw [if_pos c27]; rfl
  rw [if_neg c27]
  by_cases c28 : s = 28
  · rw [if_pos c28]; rfl
  rw [if_neg c28]
  by_cases c29 : s = 29
  · rw [if_pos c29]; rfl
  rw [if_neg c29]
  by_cases c30 : s = 30
  · rw [if_pos c30]; rfl
  rw [if_neg c30]
  by_cases c31 : s = 31
  · rw [if_pos c31]; rfl
  rw [if_neg c31]
  by_cases c32 : s = 32
  · rw [if_pos c32]; rfl
  rw [if_neg c32]
  by_cases c33 : s = 33
  · rw [if_pos c33]; rfl
  rw [if_neg c33]
  by_cases c34 : s = 34
  · rw [if_pos c34]; rfl
  rw [if_neg c34]
  by_cases c35 : s = 35
  · rw [if_pos c35]; split <;> rfl
  rw [if_neg c35]
  by_cases c36 : s = 36
  · rw [if_pos c36]; rfl
  rw [if_neg c36]
  by_cases c37 : s = 37
  · rw [if_pos c37]; rfl
  rw [if_neg c37]
  by_cases c38 : s = 38
  · rw [if_pos c38]; rfl
  rw [if_neg c38]
  by_cases c39 : s = 39
  · rw [if_pos c39]; rfl
  rw [if_neg c39]
  by_cases c40 : s = 40
  · rw [if_pos c40]; rfl
  rw [if_neg c40]
  by_cases c41 : s = 41
  · rw [if_pos c41]; rfl
  rw [if_neg c41]
  by_cases c42 : s = 42
  · rw [if_pos c42]; rfl
  rw [if_neg c42]
  by_cases c43 : s = 43
  · rw [if_pos c43]; rfl
  rw [if_neg c43]
  by_cases c44 : s = 44
  · rw [if_pos c44]; rfl
  rw [if_neg c44]
  by_cases c45 : s = 45
  · rw [if_pos c45]; rfl
  rw [if_neg c45]
  by_cases c46 : s = 46
  · rw [if_pos c46]; rfl
  rw [if_neg c46]
  by_cases c47 : s = 47
  · rw [if_pos c47]; rfl
  rw [if_neg c47]
  by_cases c48 : s = 48
  · rw [if_pos c48]; rfl
  rw [if_neg c48]
  by_cases c49 : s = 49
  · rw [if_pos c49]; rfl
  rw [if_neg c49]
  rfl
theorem od_n4 (s w : Int32) : ∀ c ∈ (od s w).2.1, c ≠ 4 := by
  have h := (od_ok s w).1
  intro c hc z
  rw [z] at hc
  have key : ((od s w).2.1.all (fun c => decide (c ≠ 4))) = true := od_no4 s w
  have := List.all_eq_true.mp key 4 hc
  exact absurd this (by decide)
theorem srO_n4 {nm : List Int32} {o : OD} {ts : List AT} (ho : opO nm = some o) : ¬ (srO o ts).2.2.1 = 4 := by
  obtain ⟨k, o', -, rfl, -⟩ := opO_tbl ho
  have go : ∀ (sh : List Int32) (w : Int32), (∀ c ∈ sh, c ≠ 4) → ¬ (shp sh ts w 0 []).2.2.1 = 4 := by
    intro sh w h z
    rcases shp_mk sh ts w 0 [] with e | e
    · rw [e] at z; exact absurd z (by decide)
    · exact h _ e z
  unfold srO
  split
  · split
    · exact go _ _ (by decide)
    · exact go _ _ (by decide)
  · split
    · split
      · exact go _ _ (by decide)
      · exact go _ _ (by decide)
    · exact go _ _ (od_n4 _ _)
def pln (mk : Int32) : Prop := mk = 0 ∨ mk = 1 ∨ mk = 2 ∨ mk = 3 ∨ mk = 4 ∨ mk = 61
def ItV (l : List AI) (i : AI) : Prop := (i.1 = 4 → (∀ c ∈ i.2.2.2.2, c &&& 255 = c) ∧ i.2.2.1 ≤ i.2.2.2.2.length + 1 ∧ i.2.2.2.2.length ≤ i.2.2.1) ∧ (pln i.1 ∨ l = [i]) ∧ (i.1 = 0 ∨ i.1 = 61 → i.2.2.1 ≤ 8) ∧ (¬ pln i.1 → i.2.2.1 ≤ 8)
theorem stm_V {η : Int32 → AT → Int32 × Bool} {lo : AT → Bool} {tk : List Int32 → Bool} {nm : List Int32} {o : OD} {ts : List AT} (ht : ∀ a ∈ ts, T6 a) (ho : opO nm = some o) : ∀ i ∈ (stm η lo tk o ts).2.1, ItV (stm η lo tk o ts).2.1 i := by
  obtain ⟨-, -, ok5, ok4⟩ := opO_ok ho
  unfold stm
  by_cases c12 : o.1 = 1 ∨ o.1 = 2
  · rw [if_pos c12]; intro i hi; cases hi
  rw [if_neg c12]
  by_cases c3 : o.1 = 3
  · rw [if_pos c3]; intro i hi; cases hi
  rw [if_neg c3]
  by_cases c4 : o.1 = 4
  · rw [if_pos c4]
    intro i hi
    obtain ⟨R, hR, rfl⟩ := List.mem_map.mp hi
    refine ⟨fun z => absurd z (show ¬ (61 : Int32) = 4 by decide), Or.inl (Or.inr (Or.inr (Or.inr (Or.inr (Or.inr rfl))))), fun _ => ?_, fun z => absurd (Or.inr (Or.inr (Or.inr (Or.inr (Or.inr rfl))))) z⟩
    show o.2.2.toNatClampNeg ≤ 8
    rcases ok4 c4 with e | e | e <;> rw [e] <;> decide
  rw [if_neg c4]
  by_cases c5 : o.1 = 5
  · rw [if_pos c5]
    intro i hi
    obtain ⟨s, hs, rfl⟩ := List.mem_map.mp hi
    obtain ⟨a, ha, hk, hsa⟩ := stT_mem _ _ s hs
    have hz1 : o.2.2.toNatClampNeg ≤ 1 := by rcases ok5 c5 with z | z <;> rw [z] <;> decide
    refine ⟨fun _ => ⟨?_, ?_, ?_⟩, Or.inl (Or.inr (Or.inr (Or.inr (Or.inr (Or.inl rfl))))), fun z => ?_, fun z => absurd (Or.inr (Or.inr (Or.inr (Or.inr (Or.inl rfl))))) z⟩
    · show ∀ c ∈ s, c &&& 255 = c
      rw [← hsa]; exact ht a ha hk
    · show s.length + o.2.2.toNatClampNeg ≤ s.length + 1; omega
    · show s.length ≤ s.length + o.2.2.toNatClampNeg; omega
    · exact absurd z (show ¬ ((4 : Int32) = 0 ∨ (4 : Int32) = 61) by decide)
  rw [if_neg c5]
  by_cases c6 : o.1 = 6
  · rw [if_pos c6]
    intro i hi
    rw [List.mem_singleton.mp hi]
    exact ⟨fun z => absurd z (show ¬ (2 : Int32) = 4 by decide), Or.inr rfl, fun z => absurd z (show ¬ ((2 : Int32) = 0 ∨ (2 : Int32) = 61) by decide), fun z => absurd (Or.inr (Or.inr (Or.inl rfl))) z⟩
  rw [if_neg c6]
  by_cases c7 : o.1 = 7
  · rw [if_pos c7]
    intro i hi
    rw [List.mem_singleton.mp hi]
    exact ⟨fun z => absurd z (show ¬ (3 : Int32) = 4 by decide), Or.inr rfl, fun z => absurd z (show ¬ ((3 : Int32) = 0 ∨ (3 : Int32) = 61) by decide), fun z => absurd (Or.inr (Or.inr (Or.inr (Or.inl rfl)))) z⟩
  rw [if_neg c7]
  by_cases c8 : o.1 = 8
  · rw [if_pos c8]
    intro i hi
    obtain ⟨x, hx, rfl⟩ := List.mem_map.mp hi
    refine ⟨fun z => absurd z (show ¬ (0 : Int32) = 4 by decide), Or.inl (Or.inl rfl), fun _ => ?_, fun z => absurd (Or.inl rfl) z⟩
    show x.2 ≤ 8
    unfold liI at hx
    split at hx
    · rw [List.mem_singleton.mp hx]; show 2 ≤ 8; omega
    · split at hx
      · rw [List.mem_singleton.mp hx]; show 4 ≤ 8; omega
      · rcases List.mem_cons.mp hx with e | e
        · rw [e]; show 4 ≤ 8; omega
        · split at e
          · cases e
          · rw [List.mem_singleton.mp e]; show 4 ≤ 8; omega
  rw [if_neg c8]
  intro i hi
  have hlen : ∀ s : SR, (len0 s.2.2.1 s.2.1).toNatClampNeg ≤ 8 := fun s => len0_le _ _
  rw [List.mem_singleton.mp hi]
  refine ⟨fun z => ?_, Or.inr rfl, fun _ => hlen _, fun _ => hlen _⟩
  exfalso
  have z' : (srO o ts).2.2.1 = 4 := z
  exact srO_n4 ho z'
theorem ItV_ev {X : List Int32} (hV : ∀ c ∈ X, okT c) (hX : X.length ≤ 4096) {E : List Ev} (hW : WfE X E) {E1 E2 : List Ev} {e : Ev} (hE : E = E1 ++ e :: E2) (h5 : e.1 = 5) : ∀ i ∈ e.2.2.2.2.2, ItV e.2.2.2.2.2 i := by
  obtain ⟨a, r, o, lev, w1, w2, w3, w4, w5, w6, w7⟩ := (hW E1 e E2 hE).2.2.2.2.1 h5
  have ht : ∀ z ∈ r, T6 z := by
    intro z hz
    exact T6_lex hV e.2.1 z (by rw [w1]; exact List.mem_cons_of_mem _ hz)
  have hI := stm_V (η := ηK X (LbE E1)) (lo := loR X (LbE E1)) (tk := tkA X (LbE E1)) (ts := r) ht w4
  intro i hi
  rw [w6] at hi ⊢
  obtain ⟨i0, h0, rfl⟩ := List.mem_map.mp hi
  obtain ⟨v1, v2, v3, v4⟩ := hI i0 h0
  by_cases hJ : isJ i0.1 = true
  · have hcur : curL lev i0 = (i0.1, i0.2.1, 2 * 2 ^ lev, i0.2.2.2) := by unfold curL; rw [if_pos hJ]
    have hnp : ¬ pln i0.1 := by
      intro z
      rcases z with z | z | z | z | z | z <;> (rw [z] at hJ; exact absurd hJ (by decide))
    have hl2 : lev ≤ 2 := by
      rcases w7 with ⟨i, _, q2, q3, q4⟩ | ⟨q1, -⟩
      · have : lvM i.1 ≤ 2 := by unfold lvM; split <;> omega
        omega
      · have := q1 i0 h0; rw [hJ] at this; cases this
    have hl8 : 2 * 2 ^ lev ≤ 8 := by
      rcases (show lev = 0 ∨ lev = 1 ∨ lev = 2 by omega) with z | z | z <;> rw [z] <;> decide
    rw [hcur]
    refine ⟨fun z => absurd (Or.inr (Or.inr (Or.inr (Or.inr (Or.inl z))))) hnp, Or.inr ?_, fun _ => hl8, fun _ => hl8⟩
    rcases v2 with z | z
    · exact absurd z hnp
    · have z' : (stK X (LbE E1) o r).2.1 = [i0] := z
      rw [z', List.map_cons, List.map_nil, hcur]
  · have hcur : curL lev i0 = i0 := by unfold curL; rw [if_neg hJ]
    rw [hcur]
    refine ⟨v1, ?_, v3, v4⟩
    rcases v2 with z | z
    · exact Or.inl z
    · have z' : (stK X (LbE E1) o r).2.1 = [i0] := z
      exact Or.inr (by rw [z', List.map_cons, List.map_nil, hcur])
