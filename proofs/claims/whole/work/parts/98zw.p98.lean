/-! ===== image and lines: what the reference answers ===== -/
theorem eb_get {X : List Int32} {E : List Ev} (hX : X.length ≤ 4096) (hW : WfE X E) {E1 E2 : List Ev} {e : Ev} (hE : E = E1 ++ e :: E2) (h5 : e.1 = 5) (s : Sz) (i : Nat) : (ebE X E s e).getD i 0 = (byB (ηE X E s e) (aE E s e) e.2.2.2.2.2).getD i 0 := by
  have hS := (WfE_SI hX hW e (by rw [hE]; simp)).1 h5
  have same : (∀ it ∈ e.2.2.2.2.2, it.1 ≠ 3) → ebE X E s e = byB (ηE X E s e) (aE E s e) e.2.2.2.2.2 := by
    intro h
    unfold ebE byB
    have : ∀ l : List AI, (∀ it ∈ l, it.1 ≠ 3) → l.flatMap (pcI (ηE X E s e) (aE E s e) (offS s e.2.2.2.1)) = l.flatMap (byI (ηE X E s e) (aE E s e)) := by
      intro l
      induction l with
      | nil => intro _; rfl
      | cons a l ih =>
        intro hl
        rw [List.flatMap_cons, List.flatMap_cons, ih (fun x hx => hl x (List.mem_cons_of_mem _ hx))]
        congr 1
        unfold pcI
        rw [if_neg (hl a List.mem_cons_self)]
    exact this _ h
  rcases hS with ⟨p1, -⟩ | ⟨n, p1, p2⟩ | ⟨mk, w, lev, R, p1, p2, p3, p4⟩
  · rw [same (fun it hit => (p1 it hit).1)]
  · have e1 : ebE X E s e = List.replicate (lenI (offS s e.2.2.2.1) (3, nI n, 0, [], [])) 0 := by
      unfold ebE
      rw [p2, List.flatMap_cons, List.flatMap_nil, List.append_nil]
      rfl
    have e2 : byB (ηE X E s e) (aE E s e) e.2.2.2.2.2 = [] := by
      rw [p2, byB_1]
      unfold byI
      rw [if_neg (show ¬ (3 : Int32) = 0 by decide), if_neg (show ¬ (3 : Int32) = 2 by decide), if_pos (Or.inr rfl)]
    rw [e1, e2, rep_getD]
    rfl
  · rw [same (fun it hit => by
      rw [p1] at hit
      rw [List.mem_singleton.mp hit]
      intro z
      have z' : mk = 3 := z
      rw [z'] at p2
      exact absurd p2 (by decide))]
/-- where a place of a section lies -/
theorem sec_get {X : List Int32} {E : List Ev} (hW : WfE X E) {g : Sz → Ev → List Int32} (hg : GOK E g) (b : Nat) : ∀ (E2 E1 : List Ev), E = E1 ++ E2 → ∀ q, (∃ A e B, E2 = A ++ e :: B ∧ e.1 = 5 ∧ (e.2.2.2.1 = 1 ↔ b = 1) ∧ offS (lay (0, 0) (E1 ++ A)) b ≤ offS (lay (0, 0) E1) b + q ∧ offS (lay (0, 0) E1) b + q < offS (lay (0, 0) (E1 ++ A)) b + szL (offS (lay (0, 0) (E1 ++ A)) b) e.2.2.2.2.2 ∧ (secT g b (lay (0, 0) E1) E2).getD q 0 = (g (lay (0, 0) (E1 ++ A)) e).getD (offS (lay (0, 0) E1) b + q - offS (lay (0, 0) (E1 ++ A)) b) 0) ∨ ((∀ A e B, E2 = A ++ e :: B → e.1 = 5 → (e.2.2.2.1 = 1 ↔ b = 1) → ¬ (offS (lay (0, 0) (E1 ++ A)) b ≤ offS (lay (0, 0) E1) b + q ∧ offS (lay (0, 0) E1) b + q < offS (lay (0, 0) (E1 ++ A)) b + szL (offS (lay (0, 0) (E1 ++ A)) b) e.2.2.2.2.2)) ∧ (secT g b (lay (0, 0) E1) E2).getD q 0 = 0)
  | [], E1, _, q => Or.inr ⟨fun A e B h => (by cases A <;> cases h), rfl⟩
  | e :: E2, E1, hE, q => by
    have hE' : E = (E1 ++ [e]) ++ E2 := by rw [hE]; simp
    have hst : lay (0, 0) (E1 ++ [e]) = stepE (lay (0, 0) E1) e := lay_snoc _ _ _
    by_cases hm : e.1 = 5 ∧ (e.2.2.2.1 = 1 ↔ b = 1)
    · have hsec : secT g b (lay (0, 0) E1) (e :: E2) = g (lay (0, 0) E1) e ++ secT g b (lay (0, 0) (E1 ++ [e])) E2 := by rw [secT, if_pos hm, hst]
      have ob : ∀ s : Sz, offS s e.2.2.2.1 = offS s b := by
        intro s
        unfold offS
        by_cases hs : e.2.2.2.1 = 1
        · rw [if_pos hs, if_pos (hm.2.mp hs)]
        · rw [if_neg hs, if_neg (fun z => hs (hm.2.mpr z))]
      have hgl := hg E1 e E2 hE hm.1
      rw [ob] at hgl
      have hoff : offS (lay (0, 0) (E1 ++ [e])) b = offS (lay (0, 0) E1) b + szL (offS (lay (0, 0) E1) b) e.2.2.2.2.2 := by
        rw [hst]
        unfold stepE offS
        by_cases hs : e.2.2.2.1 = 1
        · rw [if_pos hs, if_pos (hm.2.mp hs), if_pos (hm.2.mp hs)]
        · rw [if_neg hs, if_neg (fun z => hs (hm.2.mpr z)), if_neg (fun z => hs (hm.2.mpr z))]
      rw [hsec, app_getD, hgl]
      by_cases hq : q < szL (offS (lay (0, 0) E1) b) e.2.2.2.2.2
      · left
        refine ⟨[], e, E2, rfl, hm.1, hm.2, by rw [List.append_nil]; omega, by rw [List.append_nil]; omega, ?_⟩
        rw [if_pos hq, List.append_nil]
        congr 1; omega
      · rw [if_neg hq]
        have ee : offS (lay (0, 0) (E1 ++ [e])) b + (q - szL (offS (lay (0, 0) E1) b) e.2.2.2.2.2) = offS (lay (0, 0) E1) b + q := by omega
        rcases sec_get hW hg b E2 (E1 ++ [e]) hE' (q - szL (offS (lay (0, 0) E1) b) e.2.2.2.2.2) with ⟨A, f, B, r1, r2, r3, r4, r5, r6⟩ | ⟨r1, r2⟩
        · left
          rw [ee] at r4 r5 r6
          rw [show E1 ++ [e] ++ A = E1 ++ e :: A by simp] at r4 r5 r6
          exact ⟨e :: A, f, B, by rw [r1]; rfl, r2, r3, r4, r5, r6⟩
        · right
          refine ⟨fun A f B h h5 hb => ?_, r2⟩
          cases A with
          | nil =>
            injection h with h1 h2
            rw [← h1, List.append_nil]
            omega
          | cons a A =>
            injection h with h1 h2
            have := r1 A f B h2 h5 hb
            rw [ee, show E1 ++ [e] ++ A = E1 ++ e :: A by simp] at this
            rw [← h1]
            exact this
    · have hsec : secT g b (lay (0, 0) E1) (e :: E2) = secT g b (lay (0, 0) (E1 ++ [e])) E2 := by rw [secT, if_neg hm, hst]; rfl
      have hoff : offS (lay (0, 0) (E1 ++ [e])) b = offS (lay (0, 0) E1) b := by
        rw [hst]
        by_cases h5 : e.1 = 5
        · unfold stepE offS
          by_cases hs : e.2.2.2.1 = 1
          · have hb : b ≠ 1 := fun z => hm ⟨h5, by simp [hs, z]⟩
            rw [if_pos hs, if_neg hb, if_neg hb]
          · have hb : b = 1 := by
              by_cases hb : b = 1
              · exact hb
              · exact absurd ⟨h5, by simp [hs, hb]⟩ hm
            rw [if_neg hs, if_pos hb, if_pos hb]
        · unfold stepE
          rw [hW.its e (by rw [hE]; simp) h5]
          split <;> rfl
      rw [hsec]
      rcases sec_get hW hg b E2 (E1 ++ [e]) hE' q with ⟨A, f, B, r1, r2, r3, r4, r5, r6⟩ | ⟨r1, r2⟩
      · left
        rw [hoff] at r4 r5 r6
        rw [show E1 ++ [e] ++ A = E1 ++ e :: A by simp] at r4 r5 r6
        exact ⟨e :: A, f, B, by rw [r1]; rfl, r2, r3, r4, r5, r6⟩
      · right
        refine ⟨fun A f B h h5 hb => ?_, r2⟩
        cases A with
        | nil =>
          injection h with h1 h2
          rw [← h1] at h5 hb
          exact absurd ⟨h5, hb⟩ hm
        | cons a A =>
          injection h with h1 h2
          have := r1 A f B h2 h5 hb
          rw [hoff, show E1 ++ [e] ++ A = E1 ++ e :: A by simp] at this
          rw [← h1]
          exact this
theorem row_get {X : List Int32} {E : List Ev} (hX : X.length ≤ 4096) (hW : WfE X E) {g : Sz → Ev → List Int32} (hg : GOK E g) {l : List Int32} (hT : TPr l (allN E) (bsE E) (secT g 0 (0, 0) E) (secT g 1 (0, 0) E)) {k : Nat} (hk : k < allN E) : ((∀ E1 e E2, E = E1 ++ e :: E2 → e.1 = 5 → ¬ Cov E E1 e k) ∧ l.getD k 0 = 0) ∨ ∃ E1 e E2, E = E1 ++ e :: E2 ∧ e.1 = 5 ∧ Cov E E1 e k ∧ l.getD k 0 = (g (lay (0, 0) E1) e).getD (k - adS (bsE E) (lay (0, 0) E1) e.2.2.2.1) 0 := by
  have hb := base_ge (lay (0, 0) E).1
  have hbs : bsE E = baseN (lay (0, 0) E).1 := rfl
  rw [hT.2 k hk]
  by_cases hkB : k < bsE E
  · rw [if_pos hkB]
    have h0 : ∀ s : Sz, offS s 0 = s.1 := fun s => rfl
    rcases sec_get hW hg 0 E [] rfl k with ⟨A, e, B, r1, r2, r3, r4, r5, r6⟩ | ⟨r1, r2⟩
    · right
      rw [List.nil_append, h0, h0] at r4 r5 r6
      have hs : e.2.2.2.1 ≠ 1 := fun z => absurd (r3.mp z) (by decide)
      have r4' : (lay (0, 0) A).1 ≤ 0 + k := r4
      have r5' : 0 + k < (lay (0, 0) A).1 + szL (lay (0, 0) A).1 e.2.2.2.2.2 := r5
      have ha : adS (bsE E) (lay (0, 0) A) e.2.2.2.1 = (lay (0, 0) A).1 := by unfold adS; rw [if_neg hs]
      have ho : offS (lay (0, 0) A) e.2.2.2.1 = (lay (0, 0) A).1 := by unfold offS; rw [if_neg hs]
      refine ⟨A, e, B, r1, r2, ⟨by rw [ha]; omega, by rw [ha, ho]; omega⟩, ?_⟩
      rw [ha]
      have r6' : (secT g 0 (0, 0) E).getD k 0 = (g (lay (0, 0) A) e).getD (0 + k - (lay (0, 0) A).1) 0 := r6
      rw [r6', Nat.zero_add]
    · left
      refine ⟨fun A e B hE h5 hc => ?_, r2⟩
      by_cases hs : e.2.2.2.1 = 1
      · have ha : adS (bsE E) (lay (0, 0) A) e.2.2.2.1 = bsE E + (lay (0, 0) A).2 := by unfold adS; rw [if_pos hs]
        have := hc.1
        rw [ha] at this
        omega
      · have ha : adS (bsE E) (lay (0, 0) A) e.2.2.2.1 = (lay (0, 0) A).1 := by unfold adS; rw [if_neg hs]
        have ho : offS (lay (0, 0) A) e.2.2.2.1 = (lay (0, 0) A).1 := by unfold offS; rw [if_neg hs]
        have hc1 := hc.1
        have hc2 := hc.2
        rw [ha] at hc1
        rw [ha, ho] at hc2
        refine r1 A e B hE h5 (by simp [hs]) ?_
        rw [List.nil_append, h0, h0]
        show (lay (0, 0) A).1 ≤ 0 + k ∧ 0 + k < (lay (0, 0) A).1 + szL (lay (0, 0) A).1 e.2.2.2.2.2
        omega
  · rw [if_neg hkB]
    have h1 : ∀ s : Sz, offS s 1 = s.2 := fun s => rfl
    rcases sec_get hW hg 1 E [] rfl (k - bsE E) with ⟨A, e, B, r1, r2, r3, r4, r5, r6⟩ | ⟨r1, r2⟩
    · right
      rw [List.nil_append, h1, h1] at r4 r5 r6
      have hs : e.2.2.2.1 = 1 := r3.mpr rfl
      have r4' : (lay (0, 0) A).2 ≤ 0 + (k - bsE E) := r4
      have r5' : 0 + (k - bsE E) < (lay (0, 0) A).2 + szL (lay (0, 0) A).2 e.2.2.2.2.2 := r5
      have ha : adS (bsE E) (lay (0, 0) A) e.2.2.2.1 = bsE E + (lay (0, 0) A).2 := by unfold adS; rw [if_pos hs]
      have ho : offS (lay (0, 0) A) e.2.2.2.1 = (lay (0, 0) A).2 := by unfold offS; rw [if_pos hs]
      refine ⟨A, e, B, r1, r2, ⟨by rw [ha]; omega, by rw [ha, ho]; omega⟩, ?_⟩
      rw [ha]
      have r6' : (secT g 1 (0, 0) E).getD (k - bsE E) 0 = (g (lay (0, 0) A) e).getD (0 + (k - bsE E) - (lay (0, 0) A).2) 0 := r6
      rw [r6']
      congr 1
      omega
    · left
      refine ⟨fun A e B hE h5 hc => ?_, r2⟩
      by_cases hs : e.2.2.2.1 = 1
      · have ha : adS (bsE E) (lay (0, 0) A) e.2.2.2.1 = bsE E + (lay (0, 0) A).2 := by unfold adS; rw [if_pos hs]
        have ho : offS (lay (0, 0) A) e.2.2.2.1 = (lay (0, 0) A).2 := by unfold offS; rw [if_pos hs]
        have hc1 := hc.1
        have hc2 := hc.2
        rw [ha] at hc1
        rw [ha, ho] at hc2
        refine r1 A e B hE h5 (by simp [hs]) ?_
        rw [List.nil_append, h1, h1]
        show (lay (0, 0) A).2 ≤ 0 + (k - bsE E) ∧ 0 + (k - bsE E) < (lay (0, 0) A).2 + szL (lay (0, 0) A).2 e.2.2.2.2.2
        omega
      · have ha : adS (bsE E) (lay (0, 0) A) e.2.2.2.1 = (lay (0, 0) A).1 := by unfold adS; rw [if_neg hs]
        have ho : ∀ s : Sz, offS s e.2.2.2.1 = s.1 := fun s => by unfold offS; rw [if_neg hs]
        have hc2 := hc.2
        have hin := off_in hX hW hE
        rw [ha, ho] at hc2
        rw [ho, ho] at hin
        omega
theorem byt_get {X : List Int32} {E : List Ev} (hX : X.length ≤ 4096) (hW : WfE X E) {l : List Int32} (hT : TPr l (allN E) (bsE E) (secT (ebE X E) 0 (0, 0) E) (secT (ebE X E) 1 (0, 0) E)) {k : Nat} (hk : k < allN E) : BytR X E k (l.getD k 0) := by
  rcases row_get hX hW (GOK_eb hX hW) hT hk with z | ⟨E1, e, E2, h1, h2, h3, h4⟩
  · exact Or.inl z
  · exact Or.inr ⟨E1, e, E2, h1, h2, h3, by rw [h4, eb_get hX hW h1 h2]⟩
theorem lin_get {X : List Int32} {E : List Ev} (hX : X.length ≤ 4096) (hW : WfE X E) {l : List Int32} (hT : TPr l (allN E) (bsE E) (secT elE 0 (0, 0) E) (secT elE 1 (0, 0) E)) {k : Nat} (hk : k < allN E) : LinR E k (l.getD k 0) := by
  rcases row_get hX hW (GOK_el E) hT hk with z | ⟨E1, e, E2, h1, h2, h3, h4⟩
  · exact Or.inl z
  · refine Or.inr ⟨E1, e, E2, h1, h2, h3, ?_⟩
    rw [h4]
    unfold elE
    have hc := h3.2
    have hc1 := h3.1
    rw [gD_e (by rw [List.length_replicate]; omega), List.getElem_replicate]
