/-! ===== the class's places beside the events ===== -/
theorem fm_at : ∀ (E : List Ev) (k : Nat) (x : Sl), (E.flatMap slE)[k]? = some x → ∃ E1 e E2 j, E = E1 ++ e :: E2 ∧ k = (E1.map nit).sum + j ∧ (slE e)[j]? = some x
  | [], k, x, h => by rw [List.flatMap_nil, List.getElem?_nil] at h; cases h
  | e :: E, k, x, h => by
    rw [List.flatMap_cons] at h
    by_cases hk : k < (slE e).length
    · rw [List.getElem?_append_left hk] at h
      exact ⟨[], e, E, k, rfl, by simp, h⟩
    · rw [List.getElem?_append_right (by omega)] at h
      obtain ⟨E1, f, E2, j, h1, h2, h3⟩ := fm_at E _ x h
      refine ⟨e :: E1, f, E2, j, by rw [h1]; rfl, ?_, h3⟩
      rw [List.map_cons, List.sum_cons, ← slE_len]
      omega
theorem sl_at {E : List Ev} {k : Nat} {x : Sl} (h : (slA E)[k]? = some x) : (k < 10 ∧ x = (0, plS)) ∨ ∃ E1 e E2 j, E = E1 ++ e :: E2 ∧ k = cI E1 + j ∧ (slE e)[j]? = some x := by
  unfold slA at h
  by_cases hk : k < 10
  · rw [List.getElem?_append_left (by rw [List.length_replicate]; exact hk), List.getElem?_replicate, if_pos hk] at h
    exact Or.inl ⟨hk, by cases h; rfl⟩
  · rw [List.getElem?_append_right (by rw [List.length_replicate]; omega), List.length_replicate] at h
    obtain ⟨E1, e, E2, j, h1, h2, h3⟩ := fm_at E _ x h
    exact Or.inr ⟨E1, e, E2, j, h1, by unfold cI; omega, h3⟩
theorem sl_ev {E1 E2 : List Ev} {e : Ev} {j : Nat} (hj : j < nit e) : (slA (E1 ++ e :: E2))[cI E1 + j]? = (slE e)[j]? := by
  rw [slA_app, List.getElem?_append_right (by rw [slA_len]; omega), slA_len, List.flatMap_cons, List.getElem?_append_left (by rw [slE_len]; omega)]
  congr 1
  omega
theorem sl_take {E1 E2 : List Ev} {e : Ev} {j : Nat} (hj : j ≤ nit e) : (slA (E1 ++ e :: E2)).take (cI E1 + j) = slA E1 ++ (slE e).take j := by
  rw [slA_app, List.take_append, slA_len, List.take_of_length_le (by rw [slA_len]; omega), show cI E1 + j - cI E1 = j by omega, List.flatMap_cons, List.take_append_of_le_length (by rw [slE_len]; exact hj)]
/-- the places and lengths that the class has found -/
def PlL (E : List Ev) (sP sI : CS) : Prop := sP.1 2 = nI (lay (0, 0) E).1 ∧ sP.1 7 = nI (lay (0, 0) E).2 ∧ sP.1 3 = nI (bsE E) ∧ ∀ E1 e E2, E = E1 ++ e :: E2 →
  (e.1 = 5 → ∀ j it, e.2.2.2.2.2[j]? = some it → sI.2.1 (cI E1 + j + 1) 5 = nI (offS (lay (0, 0) E1) e.2.2.2.1 + szL (offS (lay (0, 0) E1) e.2.2.2.1) (e.2.2.2.2.2.take j)) ∧ sI.2.1 (cI E1 + j + 1) 4 = nI (lenI (offS (lay (0, 0) E1) e.2.2.2.1 + szL (offS (lay (0, 0) E1) e.2.2.2.1) (e.2.2.2.2.2.take j)) it)) ∧
  (e.1 ≠ 5 → e.1 ≠ 2 → sI.2.1 (cI E1 + 1) 5 = nI (offS (lay (0, 0) E1) e.2.2.2.1))
theorem offS_its (s : Sz) (sec : Nat) (its : List AI) : offS ((its.map (fun it => (sec, it))).foldl stI s) sec = offS s sec + szL (offS s sec) its := by
  rw [stI_its]
  unfold offS
  by_cases h : sec = 1
  · rw [if_pos h, if_pos h, if_pos h]
  · rw [if_neg h, if_neg h, if_neg h]
section
variable {X : List Int32} {ns : List (List Int32)} {Y K V : List Int32} {sP sI sI' : CS} {E : List Ev}
theorem slE_5 {e : Ev} (h : e.1 = 5) : slE e = e.2.2.2.2.2.map (fun it => (e.2.2.2.1, it)) := by
  unfold slE
  rw [if_neg (by omega), if_pos h]
theorem slE_p {e : Ev} (h5 : e.1 ≠ 5) (h2 : e.1 ≠ 2) : slE e = [(e.2.2.2.1, plS)] := by
  unfold slE
  rw [if_neg h2, if_neg h5]
theorem WfE.its {X : List Int32} {E : List Ev} (hW : WfE X E) : ∀ e ∈ E, e.1 ≠ 5 → e.2.2.2.2.2 = [] := by
  intro e he h5
  obtain ⟨E1, E2, rfl⟩ := List.append_of_mem he
  exact (hW E1 e E2 rfl).2.2.2.2.2.1 h5
theorem PlI.mem {k sec : Nat} {w : Int32} (h : PlI sI k sec w) : MemS sI k (sec, plS) := ⟨h.1, h.2.1, fun _ => h.2.2.1, fun z => absurd z (show ¬ (1 : Int32) = 3 by decide)⟩
theorem Pr_mem (hX : X.length ≤ 4096) (hW : WfE X E) (h : PrI X ns Y K V sI E) {k : Nat} {x : Sl} (hx : (slA E)[k]? = some x) : MemS sI k x := by
  rcases sl_at hx with ⟨hk, rfl⟩ | ⟨E1, e, E2, j, hE, rfl, hj⟩
  · exact (h.1 k hk).mem
  · have hwf := hW E1 e E2 hE
    obtain ⟨g1, g2, g3⟩ := h.2 E1 e E2 hE
    have hkd := hwf.kd
    by_cases h5 : e.1 = 5
    · rw [slE_5 h5, List.getElem?_map] at hj
      cases hit : e.2.2.2.2.2[j]? with
      | none => rw [hit] at hj; cases hj
      | some it =>
        rw [hit] at hj
        have hx' : x = (e.2.2.2.1, it) := by simpa using hj.symm
        rw [hx']
        obtain ⟨i1, i2, i3, i4, i5, i6, i7, i8⟩ := g1 h5 j it hit
        refine ⟨i2, i3, i4, fun z => ?_⟩
        have hS := (WfE_SI hX hW e (by rw [hE]; simp)).1 h5
        rcases hS with ⟨q1, -⟩ | ⟨k, q1, q2⟩ | ⟨mk, w, lev, R, q1, q2, -⟩
        · exact absurd z (q1 it (List.mem_of_getElem? hit)).1
        · rw [q2] at hit
          have : it = (3, nI k, 0, [], []) := by
            cases j with
            | zero => simpa using hit.symm
            | succ j => simp at hit
          refine ⟨k, q1, by rw [this], ?_⟩
          rw [i7 (by rw [show it.1 = 3 from z]; decide), this]
        · rw [q1] at hit
          have : it = (mk, w, 2 * 2 ^ lev, R, []) := by
            cases j with
            | zero => simpa using hit.symm
            | succ j => simp at hit
          have z' : it.1 = 3 := z
          rw [this] at z'
          have z2 : mk = 3 := z'
          rw [z2] at q2
          exact absurd q2 (by decide)
    · have h2 : e.1 ≠ 2 := by
        intro h2
        have : (slE e) = [] := by unfold slE; rw [if_pos h2]
        rw [this, List.getElem?_nil] at hj; cases hj
      rw [slE_p h5 h2] at hj
      have hj0 : j = 0 ∧ x = (e.2.2.2.1, plS) := by
        cases j with
        | zero => exact ⟨rfl, by simpa using hj.symm⟩
        | succ j => simp at hj
      obtain ⟨rfl, rfl⟩ := hj0
      rw [Nat.add_zero]
      by_cases h34 : e.1 = 3 ∨ e.1 = 4
      · exact (g3 h34).mem
      · obtain ⟨i, i1, i2, i3⟩ := g2 (by omega)
        exact i3.mem
theorem PrI_plc (h : PrI X ns Y K V sI E) (e1 : ∀ q j, j ≠ 4 → j ≠ 5 → sI'.2.1 q j = sI.2.1 q j) (e2 : ∀ k x, (slA E)[k]? = some x → x.2.1 ≠ 3 → sI'.2.1 (k + 1) 4 = sI.2.1 (k + 1) 4) (hkd : ∀ E1 e E2, E = E1 ++ e :: E2 → e.1 ≤ 5) : PrI X ns Y K V sI' E := by
  have pl : ∀ (k sec : Nat) (w : Int32), (slA E)[k]? = some (sec, plS) → PlI sI k sec w → PlI sI' k sec w := by
    intro k sec w hs hp
    unfold PlI at hp ⊢
    rw [e1 _ 1 (by decide) (by decide), e1 _ 2 (by decide) (by decide), e1 _ 3 (by decide) (by decide), e2 k _ hs (show (1 : Int32) ≠ 3 by decide)]
    exact hp
  refine ⟨fun d hd => pl d 0 _ ?_ (h.1 d hd), fun E1 e E2 hE => ?_⟩
  · unfold slA
    rw [List.getElem?_append_left (by rw [List.length_replicate]; exact hd), List.getElem?_replicate, if_pos hd]
  · obtain ⟨g1, g2, g3⟩ := h.2 E1 e E2 hE
    have at0 : e.1 ≠ 5 → e.1 ≠ 2 → (slA E)[cI E1]? = some (e.2.2.2.1, plS) := by
      intro h5 h2
      have := sl_ev (E1 := E1) (E2 := E2) (e := e) (j := 0) (by rw [← slE_len, slE_p h5 h2]; exact Nat.one_pos)
      rw [← hE, slE_p h5 h2] at this
      exact this
    refine ⟨fun h5 j it hj => ?_, fun z => ?_, fun z => ?_⟩
    · have hI := g1 h5 j it hj
      have hs : (slA E)[cI E1 + j]? = some (e.2.2.2.1, it) := by
        rw [hE, sl_ev (by rw [nit_5 h5]; exact getE_lt hj), slE_5 h5, List.getElem?_map, hj]; rfl
      unfold ItX at hI ⊢
      rw [e1 _ 0 (by decide) (by decide), e1 _ 1 (by decide) (by decide), e1 _ 2 (by decide) (by decide), e1 _ 3 (by decide) (by decide), e1 _ 6 (by decide) (by decide), e1 _ 7 (by decide) (by decide), e1 _ 8 (by decide) (by decide)]
      obtain ⟨i1, i2, i3, i4, i5⟩ := hI
      exact ⟨i1, i2, i3, fun z => by rw [e2 _ _ hs z]; exact i4 z, i5⟩
    · obtain ⟨i, i1, i2, i3⟩ := g2 z
      exact ⟨i, i1, i2, pl _ _ _ (at0 (by omega) (by omega)) i3⟩
    · exact pl _ _ _ (at0 (by omega) (by omega)) (g3 z)
theorem C_place {N : Nat} (hX : X.length ≤ 4096) (hW : WfE X E) (h : PrI X ns Y K V sI E) (hL : LOk sI (cI E)) (hc : sP.1 1 = nI (cI E)) (hN : cI E < N) : ∃ sP' sI', C_Prg_place N sP sI = some (0, (sP', sI')) ∧ PrI X ns Y K V sI' E ∧ LOk sI' (cI E) ∧ PlL E sP' sI' ∧ (∀ j, j ≠ 2 → j ≠ 3 → j ≠ 7 → sP'.1 j = sP.1 j) ∧ sP'.2 = sP.2 ∧ sI'.2.2 = sI.2.2 := by
  have hfold := slA_fold hW.its
  have hla := lay_all hX hW
  have hmem : ∀ i x, (slA E)[i]? = some x → MemS sI (0 + i) x := fun i x hx => by rw [Nat.zero_add]; exact Pr_mem hX hW h hx
  obtain ⟨sP', sI', c1, c2, c3, c4, c5, c6, c7, c8, c9, c10, c11⟩ := C_place12 N (slA E) 0 (0, 0) N (cF (cF sP 2 0) 7 0) sI hmem (by rw [cF_o _ _ (by decide), cF_at]; rfl) (by rw [cF_at]; rfl) (by rw [cF_o _ _ (by decide), cF_o _ _ (by decide), slA_len, Nat.zero_add]; exact hc) (by rw [slA_len, Nat.zero_add]; exact hL) (by rw [slA_len]; exact hN) (by rw [hfold]; omega) (by rw [hfold]; omega)
  rw [hfold] at c2 c3 c4
  refine ⟨sP', sI', ?_, ?_, ?_, ⟨c2, c3, c4, fun E1 e E2 hE => ⟨fun h5 j it hj => ?_, fun h5 h2 => ?_⟩⟩, fun j a b c => ?_, c6, c8⟩
  · unfold C_Prg_place
    exact c1
  · refine PrI_plc h c9 (fun k x hx h3 => ?_) (fun E1 e E2 hE => (hW E1 e E2 hE).kd.1)
    have hp := (c11 k x hx).2
    rw [Nat.zero_add] at hp
    rw [hp, (Pr_mem hX hW h hx).2.2.1 h3]
    unfold lenI
    rw [if_neg h3]
  · unfold LOk; rw [c8]; exact hL
  · have hjl := getE_lt hj
    have hs : (slA E)[cI E1 + j]? = some (e.2.2.2.1, it) := by
      rw [hE, sl_ev (by rw [nit_5 h5]; exact hjl), slE_5 h5, List.getElem?_map, hj]; rfl
    have := c11 _ _ hs
    have ht : ((slA E).take (cI E1 + j)).foldl stI (0, 0) = ((e.2.2.2.2.2.take j).map (fun it => (e.2.2.2.1, it))).foldl stI (lay (0, 0) E1) := by
      rw [hE, sl_take (by rw [nit_5 h5]; omega), List.foldl_append, slA_fold (fun x hx => hW.its x (by rw [hE]; exact List.mem_append_left _ hx)), slE_5 h5, List.map_take]
    rw [ht, Nat.zero_add] at this
    simp only [] at this
    rw [offS_its] at this
    exact this
  · have hs : (slA E)[cI E1]? = some (e.2.2.2.1, plS) := by
      have := sl_ev (E1 := E1) (E2 := E2) (e := e) (j := 0) (by rw [← slE_len, slE_p h5 h2]; exact Nat.one_pos)
      rw [← hE, slE_p h5 h2] at this
      exact this
    have := (c11 _ _ hs).1
    have ht : ((slA E).take (cI E1)).foldl stI (0, 0) = lay (0, 0) E1 := by
      have ht2 := sl_take (E1 := E1) (E2 := E2) (e := e) (j := 0) (Nat.zero_le _)
      rw [Nat.add_zero, List.take_zero, List.append_nil, ← hE] at ht2
      rw [ht2, slA_fold (fun x hx => hW.its x (by rw [hE]; exact List.mem_append_left _ hx))]
    rw [ht, Nat.zero_add] at this
    exact this
  · rw [c5 j a b c, cF_o _ _ c, cF_o _ _ a]
end
