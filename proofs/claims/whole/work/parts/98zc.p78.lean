/-! ===== the class's program grows with the events ===== -/
theorem PlI.same {sI sI' : CS} {k sec : Nat} {w : Int32} (h : PlI sI k sec w) (hs : sI'.2.1 (k + 1) = sI.2.1 (k + 1)) : PlI sI' k sec w := by
  unfold PlI at h ⊢
  rw [hs]
  exact h
theorem nit_nr {e : Ev} (h : isNr e = true) : nit e = 1 := by
  unfold nit isNr at *
  simp only [decide_eq_true_eq] at h
  rw [if_neg (by omega), if_neg (by omega)]
theorem nit_lb {e : Ev} (h : e.1 < 2) : nit e = 1 := by
  unfold nit
  rw [if_neg (by omega), if_neg (by omega)]
theorem nit_5 {e : Ev} (h : e.1 = 5) : nit e = e.2.2.2.2.2.length := by
  unfold nit
  rw [if_neg (by omega), if_pos h]
theorem nit_2 {e : Ev} (h : e.1 = 2) : nit e = 0 := by
  unfold nit
  rw [if_pos h]
theorem getE_lt {α : Type} {l : List α} {j : Nat} {a : α} (h : l[j]? = some a) : j < l.length := by
  rcases Nat.lt_or_ge j l.length with z | z
  · exact z
  · rw [List.getElem?_eq_none z] at h; cases h
section
variable {X : List Int32} {ns : List (List Int32)} {Y K V so va : List Int32} {sI sI' : CS} {E : List Ev} {e : Ev}
theorem PrI_snoc (h : PrI X ns Y K V sI E) (K2 V2 : List Int32) (same : ∀ k, k ≤ cI E → sI'.2.1 k = sI.2.1 k) (hn : isNr e = false) (n5 : e.1 = 5 → ∀ j it, e.2.2.2.2.2[j]? = some it → ItX ns (nrE X E) Y (K ++ K2) (V ++ V2) sI' (cI E + j) e.2.2.1 e.2.2.2.1 (cI E) it) (n0 : e.1 = 0 ∨ e.1 = 1 → ∃ i, i < ns.length ∧ ns.getD i [] = nmAt X e.2.1 ∧ PlI sI' (cI E) e.2.2.2.1 (nI i)) : PrI X ns Y (K ++ K2) (V ++ V2) sI' (E ++ [e]) := by
  obtain ⟨h1, h2⟩ := h
  have hge := cI_ge E
  refine ⟨fun d hd => ?_, fun E1 f E2 hf => ?_⟩
  · rw [nxE_st _ _ _ _ _ hn]
    exact (h1 d hd).same (same _ (by omega))
  · rcases split_snoc hf with ⟨-, rfl, rfl⟩ | ⟨E3, hE⟩
    · refine ⟨n5, n0, fun z => ?_⟩
      unfold isNr at hn
      exact absurd z (of_decide_eq_false hn)
    · obtain ⟨g1, g2, g3⟩ := h2 E1 f E3 hE
      have hc := cI_split hE
      refine ⟨fun z j it hj => ?_, fun z => ?_, fun z => ?_⟩
      · have := getE_lt hj
        rw [nit_5 z] at hc
        exact (g1 z j it hj).more (same _ (by omega)) K2 V2
      · obtain ⟨i, i1, i2, i3⟩ := g2 z
        rw [nit_lb (by omega)] at hc
        exact ⟨i, i1, i2, i3.same (same _ (by omega))⟩
      · rw [nxE_st _ _ _ _ _ hn]
        rw [nit_nr (by unfold isNr; simpa using z)] at hc
        exact (g3 z).same (same _ (by omega))
theorem ev_at {E1 E2 F1 F2 : List Ev} {f g : Ev} (h1 : E = E1 ++ f :: E2) (h2 : E = F1 ++ g :: F2) : (E1 = F1 ∧ f = g) ∨ cI E1 + nit f ≤ cI F1 ∨ cI F1 + nit g ≤ cI E1 := by
  have key : ∀ {A B A2 B2 : List Ev} {a b : Ev}, E = A ++ a :: A2 → E = B ++ b :: B2 → A.length < B.length → cI A + nit a ≤ cI B := by
    intro A B A2 B2 a b e1 e2 hl
    have hp : A ++ [a] <+: B := by
      have p1 : A ++ [a] <+: E := ⟨A2, by rw [e1]; simp⟩
      have p2 : B <+: E := ⟨b :: B2, e2.symm⟩
      exact List.prefix_of_prefix_length_le p1 p2 (by simp; omega)
    obtain ⟨C, hC⟩ := hp
    rw [← hC, cI_app, cI_snoc]
    omega
  rcases Nat.lt_trichotomy E1.length F1.length with z | z | z
  · exact Or.inr (Or.inl (key h1 h2 z))
  · left
    rw [h1] at h2
    have := List.append_inj h2 z
    exact ⟨this.1, by have := this.2; simp only [List.cons.injEq] at this; exact this.1⟩
  · exact Or.inr (Or.inr (key h2 h1 z))
theorem nx_big (d k : Nat) : ∀ (m : Nat) (E : List Ev), E.length = m → cI E ≤ k → nxE X E d k = none := by
  intro m
  induction m with
  | zero => intro E h _; rw [List.length_eq_zero_iff.mp h]; rfl
  | succ m ih =>
    intro E h hk
    rcases List.eq_nil_or_concat E with rfl | ⟨F, f, rfl⟩
    · simp at h
    · rw [List.concat_eq_append] at h hk ⊢
      rw [cI_snoc] at hk
      rw [nxE_snoc, ih F (by simp at h; exact h) (by omega), if_neg (fun z => by omega)]
      rfl
/-- a near label: the latest one of its digit learns of it -/
theorem PrI_near (h : PrI X ns Y K V sI E) (hn : isNr e = true) (hd : dg X e < 10) (same : ∀ k, k ≤ cI E → k ≠ nrE X E (dg X e) + 1 → sI'.2.1 k = sI.2.1 k) (old : ∀ j, j ≠ 3 → sI'.2.1 (nrE X E (dg X e) + 1) j = sI.2.1 (nrE X E (dg X e) + 1) j) (old3 : sI'.2.1 (nrE X E (dg X e) + 1) 3 = nI (cI E)) (new : PlI sI' (cI E) e.2.2.2.1 (-1)) : PrI X ns Y K V sI' (E ++ [e]) := by
  obtain ⟨h1, h2⟩ := h
  have hge := cI_ge E
  have hk0 := nr_isDg X _ E rfl (dg X e) hd
  have hlt := isDg_lt hk0
  have near : ∀ (d k sec : Nat), isDg_k X E d k → d < 10 → k < cI E → PlI sI k sec (oI (nxE X E d k)) → PlI sI' k sec (oI (nxE X (E ++ [e]) d k)) := by
    intro d k sec hk hd10 hkl hp
    rw [nxE_snoc]
    by_cases hkk : k = nrE X E (dg X e)
    · have hdd : d = dg X e := by
        rw [← hkk] at hk0
        rcases hk with ⟨a1, a2⟩ | ⟨E1, f, E2, a1, a2, a3, a4⟩
        · rcases hk0 with ⟨b1, b2⟩ | ⟨F1, g, F2, b1, b2, b3, b4⟩
          · omega
          · have := cI_ge F1; omega
        · rcases hk0 with ⟨b1, b2⟩ | ⟨F1, g, F2, b1, b2, b3, b4⟩
          · have := cI_ge E1; omega
          · rcases ev_at a1 b1 with ⟨c1, c2⟩ | c | c
            · rw [← a3, ← b3, c2]
            · rw [nit_nr a2] at c; omega
            · rw [nit_nr b2] at c; omega
      rw [hdd, hkk, nx_last X _ E rfl, if_pos ⟨hn, rfl, hlt⟩]
      rw [hkk] at hp
      obtain ⟨p1, p2, p3, -⟩ := hp
      refine ⟨by rw [old 1 (by omega)]; exact p1, by rw [old 2 (by omega)]; exact p2, by rw [old 4 (by omega)]; exact p3, ?_⟩
      rw [old3]
      rfl
    · have e2 : (nxE X E d k).or (if isNr e = true ∧ dg X e = d ∧ k < cI E then some (cI E) else none) = nxE X E d k := by
        by_cases hdd : dg X e = d
        · obtain ⟨j, hj⟩ := nx_other X _ E rfl d k hk (by rw [← hdd]; exact hkk)
          rw [hj]
          rfl
        · rw [if_neg (fun z => hdd z.2.1)]
          cases nxE X E d k <;> rfl
      rw [e2]
      exact hp.same (same _ (by omega) (by omega))
  refine ⟨fun d hd => near d d 0 (Or.inl ⟨rfl, hd⟩) hd (by omega) (h1 d hd), fun E1 f E2 hf => ?_⟩
  rcases split_snoc hf with ⟨-, rfl, rfl⟩ | ⟨E3, hE⟩
  · have hn' : f.1 = 3 ∨ f.1 = 4 := by unfold isNr at hn; simpa using hn
    refine ⟨fun z => by omega, fun z => by omega, fun _ => ?_⟩
    rw [nxE_snoc, nx_big _ _ _ E1 rfl (Nat.le_refl _), if_neg (fun z => by omega)]
    exact new
  · obtain ⟨g1, g2, g3⟩ := h2 E1 f E3 hE
    have hc := cI_split hE
    have out : isNr f = false → ∀ k, cI E1 ≤ k → k < cI E1 + nit f → sI'.2.1 (k + 1) = sI.2.1 (k + 1) := by
      intro hf0 k k1 k2
      refine same _ (by omega) (fun z => ?_)
      have z' : k = nrE X E (dg X e) := by omega
      rw [← z'] at hk0
      rcases hk0 with ⟨b1, b2⟩ | ⟨F1, g, F2, b1, b2, b3, b4⟩
      · have := cI_ge E1; omega
      · rcases ev_at hE b1 with ⟨c1, c2⟩ | c | c
        · rw [c2, b2] at hf0; cases hf0
        · omega
        · rw [nit_nr b2] at c; omega
    refine ⟨fun z j it hj => ?_, fun z => ?_, fun z => ?_⟩
    · have := getE_lt hj
      have hi := (g1 z j it hj).more (out (by unfold isNr; rw [z]; decide) _ (by omega) (by rw [nit_5 z]; omega)) [] []
      rw [List.append_nil, List.append_nil] at hi
      exact hi
    · obtain ⟨i, i1, i2, i3⟩ := g2 z
      exact ⟨i, i1, i2, i3.same (out (by unfold isNr; rcases z with z | z <;> rw [z] <;> decide) _ (by omega) (by rw [nit_lb (by omega)]; omega))⟩
    · have hnf : isNr f = true := by unfold isNr; simpa using z
      rw [nit_nr hnf] at hc
      by_cases hd10 : dg X f < 10
      · exact near _ _ _ (Or.inr ⟨E1, f, E3, hE, hnf, rfl, rfl⟩) hd10 (by omega) (g3 z)
      · have hk : isDg_k X E (dg X f) (cI E1) := Or.inr ⟨E1, f, E3, hE, hnf, rfl, rfl⟩
        have hne : cI E1 ≠ nrE X E (dg X e) := by
          intro zz
          rw [← zz] at hk0
          rcases hk0 with ⟨b1, b2⟩ | ⟨F1, g, F2, b1, b2, b3, b4⟩
          · have := cI_ge E1; omega
          · rcases ev_at hE b1 with ⟨c1, c2⟩ | c | c
            · rw [c2, b3] at hd10; omega
            · rw [nit_nr hnf] at c; omega
            · rw [nit_nr b2] at c; omega
        rw [nxE_snoc]
        have e2 : (nxE X E (dg X f) (cI E1)).or (if isNr e = true ∧ dg X e = dg X f ∧ cI E1 < cI E then some (cI E) else none) = nxE X E (dg X f) (cI E1) := by
          rw [if_neg (fun z => by omega)]
          cases nxE X E (dg X f) (cI E1) <;> rfl
        rw [e2]
        exact (g3 z).same (same _ (by omega) (by omega))
theorem NmE_snoc (h : NmE X ns so va E) (he : ¬ e.1 < 3) : NmE X ns so va (E ++ [e]) := by
  intro i hi
  rcases h i hi with ⟨E1, f, E2, h1, h2⟩ | ⟨h1, h2⟩
  · exact Or.inl ⟨E1, f, E2 ++ [e], by rw [h1]; simp, h2⟩
  · refine Or.inr ⟨fun f hf k => ?_, h2⟩
    rcases List.mem_append.mp hf with z | z
    · exact h1 f z k
    · rw [List.mem_singleton.mp z] at k; exact absurd k he
theorem gs_e {l : List Int32} {i : Nat} (v : Int32) (h : i < l.length) : (l.set i v).getD i 0 = v := by
  rw [gD_e (by rw [List.length_set]; exact h), List.getElem_set_self]
theorem gs_o {l : List Int32} {i j : Nat} (v : Int32) (h : j ≠ i) : (l.set i v).getD j 0 = l.getD j 0 := by
  rcases Nat.lt_or_ge j l.length with z | z
  · rw [gD_e (by rw [List.length_set]; exact z), gD_e z, List.getElem_set_ne (Ne.symm h)]
  · rw [gD_o (by rw [List.length_set]; exact z), gD_o z]
theorem NmE_def (h : NmE X ns so va E) (hnd : ns.Nodup) (lso : so.length = ns.length) (lva : va.length = ns.length) {i : Nat} (hi : i < ns.length) (hnm : nmAt X e.2.1 = ns.getD i []) (he : e.1 < 3) (free : so.getD i 0 = 0) {s v : Int32} (h2 : e.1 = 2 → s = 2 ∧ v = e.2.2.2.2.1) (h1 : e.1 ≠ 2 → s = 1 ∧ v = nI (cI E)) : NmE X ns (so.set i s) (va.set i v) (E ++ [e]) := by
  intro j hj
  by_cases hji : j = i
  · rw [hji, gs_e s (by omega), gs_e v (by omega)]
    exact Or.inl ⟨E, e, [], rfl, he, hnm, h2, h1⟩
  · rw [gs_o s hji, gs_o v hji]
    rcases h j hj with ⟨E1, f, E2, g1, g2⟩ | ⟨g1, g2⟩
    · exact Or.inl ⟨E1, f, E2 ++ [e], by rw [g1]; simp, g2⟩
    · refine Or.inr ⟨fun f hf k z => ?_, g2⟩
      rcases List.mem_append.mp hf with y | y
      · exact g1 f y k z
      · rw [List.mem_singleton.mp y, hnm] at z
        exact hji (nodup_ix hnd hi hj z).symm
end
