/-! ===== what the reference answers of a text that is assembled ===== -/
def nmP (l : Lb) : Bool := decide (l.2.1 < 2)
def cnP (l : Lb) : Bool := decide (l.2.1 = 2)
def lbAt : List Lb → Nat → Nat → Option Nat
  | [], _, _ => none
  | l :: r, n, i => if l.2.1 < 2 then (if n = 0 then some i else lbAt r (n - 1) (i + 1)) else lbAt r n (i + 1)
theorem lbAt_f : ∀ (L : List Lb) (n i : Nat), (∀ k, lbAt L n i = some k → i ≤ k ∧ k < i + L.length ∧ n < (L.filter nmP).length ∧ (L.filter nmP).getD n lb0 = L.getD (k - i) lb0) ∧ (lbAt L n i = none → (L.filter nmP).length ≤ n)
  | [], n, i => ⟨fun k h => (by cases h), fun _ => Nat.zero_le _⟩
  | l :: r, n, i => by
    rw [lbAt, List.filter_cons]
    by_cases hk : l.2.1 < 2
    · rw [if_pos hk, if_pos (show nmP l = true from decide_eq_true hk)]
      by_cases hn : n = 0
      · rw [if_pos hn]
        refine ⟨fun k h => ?_, fun h => (by cases h)⟩
        cases h
        subst hn
        rw [Nat.sub_self]
        exact ⟨Nat.le_refl _, by simp, by simp, rfl⟩
      · rw [if_neg hn]
        obtain ⟨h1, h2⟩ := lbAt_f r (n - 1) (i + 1)
        refine ⟨fun k h => ?_, fun h => ?_⟩
        · obtain ⟨g1, g2, g3, g4⟩ := h1 k h
          refine ⟨by omega, by simp only [List.length_cons]; omega, by simp only [List.length_cons]; omega, ?_⟩
          rw [show k - i = (k - (i + 1)) + 1 by omega, show n = (n - 1) + 1 by omega]
          exact g4
        · have := h2 h
          simp only [List.length_cons]
          omega
    · rw [if_neg hk, if_neg (show ¬ nmP l = true from fun z => hk (of_decide_eq_true z))]
      obtain ⟨h1, h2⟩ := lbAt_f r n (i + 1)
      refine ⟨fun k h => ?_, h2⟩
      obtain ⟨g1, g2, g3, g4⟩ := h1 k h
      refine ⟨by omega, by simp only [List.length_cons]; omega, g3, ?_⟩
      rw [show k - i = (k - (i + 1)) + 1 by omega]
      exact g4
def befR (a : Int32) : List Int32 → Int32 → Int32 → Nat → Int32
  | [], best, _, _ => best
  | v :: r, best, ad, n => if a < v then befR a r best ad (n + 1) else if best < 0 then befR a r (nI n) v (n + 1) else if v < ad then befR a r best ad (n + 1) else befR a r (nI n) v (n + 1)
theorem gwi_get (j : Nat) : ∀ (B : List Int32), B.length < 2 ^ 31 → j < 2 ^ 31 → gwi (nI j) B.reverse = B.getD j 0 := by
  intro B
  induction h : B.length generalizing B with
  | zero =>
    intro _ _
    rw [List.length_eq_zero_iff.mp h]
    rfl
  | succ n ih =>
    intro h1 h2
    rcases List.eq_nil_or_concat B with rfl | ⟨C, x, hB⟩
    · simp at h
    · rw [List.concat_eq_append] at hB
      subst hB
      have hC : C.length = n := by simp at h; exact h
      rw [List.reverse_append]
      show (if nI C.reverse.length = nI j then x else gwi (nI j) C.reverse) = _
      rw [List.length_reverse, hC]
      by_cases hj : n = j
      · rw [if_pos (by rw [hj]), gD_r (by omega), show j - C.length = 0 by omega]
        rfl
      · rw [if_neg (by rw [nI_eq (by omega) h2]; exact hj), ih C hC (by omega) h2]
        by_cases hlt : j < n
        · rw [gD_l (by omega)]
        · rw [gD_o (by omega), gD_o (by simp; omega)]
/-- byte k is one of this statement -/
abbrev Cov (E E1 : List Ev) (e : Ev) (k : Nat) : Prop := adS (bsE E) (lay (0, 0) E1) e.2.2.2.1 ≤ k ∧ k < adS (bsE E) (lay (0, 0) E1) e.2.2.2.1 + szL (offS (lay (0, 0) E1) e.2.2.2.1) e.2.2.2.2.2
def FQ (σ τ : MS) : Prop := (∀ j, volA j = false → j ≠ 0 → j ≠ 21 → τ.1 j = σ.1 j) ∧ (∀ k, k ≠ 7 → τ.2 k = σ.2 k)
theorem FQ.rf (σ : MS) : FQ σ σ := ⟨fun _ _ _ _ => rfl, fun _ _ => rfl⟩
theorem FQ.s0 (σ : MS) (v : Int32) : FQ σ (sF σ 0 v) := ⟨fun j _ h _ => sF_ne _ _ h, fun _ _ => rfl⟩
theorem FQ.tr {a b c : MS} (h1 : FQ a b) (h2 : FQ b c) : FQ a c := ⟨fun j x y z => (h2.1 j x y z).trans (h1.1 j x y z), fun k x => (h2.2 k x).trans (h1.2 k x)⟩
section
variable {N : Nat} {X : List Int32} {E : List Ev} {σ : MS} {kr : Nat}
theorem LdS.fq {τ : MS} (h : LdS X E kr σ) (hF : FQ σ τ) : LdS X E kr τ := by
  obtain ⟨g1, g2, g3, g4, g5, g6, g7, g8, g9, g10, g11, g12⟩ := h
  refine ⟨⟨?_, fun k hk => ?_, g1.small⟩, g2, g3.fx ?_ ?_ ?_, ?_, ?_, ?_, g7, fun i hi => ?_, fun i hi => ?_, ?_, ?_, ?_⟩
  · rw [hF.1 2 (by decide) (by decide) (by decide)]; exact g1.size
  · rw [hF.2 1 (by decide)]; exact g1.text k hk
  · exact hF.1 5 (by decide) (by decide) (by decide)
  · exact hF.2 5 (by decide)
  · exact hF.2 6 (by decide)
  · rw [hF.1 6 (by decide) (by decide) (by decide)]; exact g4
  · rw [hF.1 7 (by decide) (by decide) (by decide)]; exact g5
  · rw [hF.1 4 (by decide) (by decide) (by decide)]; exact g6
  · have := g8 i hi
    unfold StQ at this ⊢
    rw [hF.2 2 (by decide), hF.2 4 (by decide)]
    exact this
  · rw [hF.2 3 (by decide)]; exact g9 i hi
  · rw [hF.1 15 (by decide) (by decide) (by decide)]; exact g10
  · rw [hF.1 14 (by decide) (by decide) (by decide)]; exact g11
  · rw [hF.1 8 (by decide) (by decide) (by decide)]; exact g12
/-- a statement of a laid text in the reference's arrays -/
theorem LdS.at (hL : LdS X E kr σ) {E1 E2 : List Ev} {e : Ev} (hE : E = E1 ++ e :: E2) (h5 : e.1 = 5) : StQ σ (StE E1).length e ∧ σ.2 3 (StE E1).length = nI (offS (lay (0, 0) E1) e.2.2.2.1) ∧ (StE E1).length < (StE E).length ∧ (StE E1).length < 1030 := by
  obtain ⟨g1, g2, g3, g4, g5, g6, g7, g8, g9, g10, g11, g12⟩ := hL
  have eSt : StE E = StE E1 ++ ([e] ++ StE E2) := by rw [hE, StE_app, StE_cons, if_pos h5]
  have hSl : (StE E1).length < (StE E).length := by rw [eSt]; simp
  have eof : ofS (0, 0) E = ofS (0, 0) E1 ++ (offS (lay (0, 0) E1) e.2.2.2.1 :: ofS (stepE (lay (0, 0) E1) e) E2) := by
    rw [hE, ofS_app]
    show _ ++ ((if e.1 = 5 then _ else _) ++ _) = _
    rw [if_pos h5]
    rfl
  refine ⟨?_, ?_, hSl, by omega⟩
  · have := g8 _ hSl
    rw [show (StE E).getD (StE E1).length ev0 = e by rw [eSt]; exact getD_mid _ _ _ _] at this
    exact this
  · rw [g9 _ hSl, eof, ← ofS_len E1 (0, 0), getD_mid]
theorem ad_lt (hX : X.length ≤ 4096) (hW : WfE X E) {E1 E2 : List Ev} {e : Ev} (hE : E = E1 ++ e :: E2) : adS (bsE E) (lay (0, 0) E1) e.2.2.2.1 ≤ 400000000 ∧ offS (lay (0, 0) E1) e.2.2.2.1 ≤ 163840000 := by
  have h1 := lay_all hX hW
  have h2 := lay_at hX hW hE
  refine ⟨?_, ?_⟩
  · unfold adS bsE baseN
    split <;> omega
  · unfold offS
    split <;> omega
theorem M_holder_eq (hN : 4200 < N) (hL : LdS X E kr σ) {k : Nat} (hk : k < 2 ^ 31) : (M_holder N (nI k) σ = some (-1) ∧ ∀ E1 e E2, E = E1 ++ e :: E2 → e.1 = 5 → ¬ Cov E E1 e k) ∨ (∃ E1 e E2, E = E1 ++ e :: E2 ∧ e.1 = 5 ∧ Cov E E1 e k ∧ M_holder N (nI k) σ = some (nI (StE E1).length)) := by
  have hX := hL.1.small
  have hW := hL.2.1
  have hSI := WfE_SI hX hW
  have loop : ∀ (E2 E1 : List Ev) (m : Nat), E = E1 ++ E2 → (StE E2).length < m → (∀ A e B, E1 = A ++ e :: B → e.1 = 5 → ¬ Cov E A e k) → (M_holder_2 N m (nI k) (nI (StE E1).length) σ = some (-1) ∧ ∀ E1 e E2, E = E1 ++ e :: E2 → e.1 = 5 → ¬ Cov E E1 e k) ∨ (∃ E1' e E2, E = E1' ++ e :: E2 ∧ e.1 = 5 ∧ Cov E E1' e k ∧ M_holder_2 N m (nI k) (nI (StE E1).length) σ = some (nI (StE E1').length)) := by
    intro E2
    induction E2 with
    | nil =>
      intro E1 m hE hm hno
      rw [List.append_nil] at hE
      subst hE
      obtain ⟨m', rfl⟩ : ∃ m', m = m' + 1 := ⟨m - 1, by omega⟩
      left
      refine ⟨?_, hno⟩
      rw [M_holder_2]
      show (if σ.1 4 ≤ nI (StE E).length then _ else _) = _
      rw [hL.2.2.2.2.2.1, if_pos (Int32.le_refl _)]
    | cons e r ih =>
      intro E1 m hE hm hno
      have hE' : E = (E1 ++ [e]) ++ r := by rw [hE, List.append_assoc]; rfl
      by_cases h5 : e.1 = 5
      · obtain ⟨hq, ho, hsl, hs⟩ := hL.at hE h5
        have hw := hW E1 e r hE
        have hSI5 := (hSI e (by rw [hE]; simp)).1 h5
        have hst' : (StE (E1 ++ [e])).length = (StE E1).length + 1 := by rw [StE_snoc, if_pos h5]; simp
        have hsr : (StE (e :: r)).length = (StE r).length + 1 := by rw [StE_cons, if_pos h5]; simp
        obtain ⟨m', rfl⟩ : ∃ m', m = m' + 1 := ⟨m - 1, by omega⟩
        obtain ⟨b1, b2'⟩ := ad_lt hX hW hE
        have hsz := SIt_le hSI5 (offS (lay (0, 0) E1) e.2.2.2.1)
        have hcap := hL.2.2.2.2.2.2.1
        have e2 : M_holder_2 N (m' + 1) (nI k) (nI (StE E1).length) σ = if Cov E E1 e k then some (nI (StE E1).length) else M_holder_2 N m' (nI k) (nI ((StE E1).length + 1)) σ := by
          rw [M_holder_2]
          show (if σ.1 4 ≤ nI (StE E1).length then _ else _) = _
          rw [hL.2.2.2.2.2.1, if_neg (by rw [nI_leI (by omega) (by omega)]; omega), M_addressOf_eq hX hW hL.2.2.2.1 hE h5 hs hq ho]
          simp only [cr, Option.bind_some]
          unfold M_holder_40
          rw [nI_1]
          by_cases c1 : k < adS (bsE E) (lay (0, 0) E1) e.2.2.2.1
          · rw [if_pos (by rw [nI_ltI hk (by omega)]; exact c1), if_neg (fun z : Cov E E1 e k => by have := z.1; omega)]
          · rw [if_neg (by rw [nI_ltI hk (by omega)]; exact c1), gd_t (inB_nI hs (by omega)), nI_clamp (by omega), ho, M_sizeAt_eq hs hq hSI5 (by have := hw.2.1; omega) hw.2.2.1 (by omega)]
            simp only [Option.bind_some]
            rw [nI_add]
            by_cases c2 : adS (bsE E) (lay (0, 0) E1) e.2.2.2.1 + szL (offS (lay (0, 0) E1) e.2.2.2.1) e.2.2.2.2.2 ≤ k
            · rw [if_pos (by rw [nI_leI (by omega) hk]; exact c2), if_neg (fun z : Cov E E1 e k => by have := z.2; omega)]
            · rw [if_neg (by rw [nI_leI (by omega) hk]; exact c2), if_pos (show Cov E E1 e k from ⟨by omega, by omega⟩)]
        by_cases hc : Cov E E1 e k
        · right
          exact ⟨E1, e, r, hE, h5, hc, by rw [e2, if_pos hc]⟩
        · have := ih (E1 ++ [e]) m' hE' (by omega) (fun A f B hAB hf => by
            rcases split_snoc hAB with ⟨rfl, rfl, rfl⟩ | ⟨E3, h3⟩
            · exact hc
            · exact hno A f E3 h3 hf)
          rw [hst'] at this
          rw [e2, if_neg hc]
          exact this
      · have hst' : (StE (E1 ++ [e])).length = (StE E1).length := by rw [StE_snoc, if_neg h5, List.append_nil]
        have hsr : (StE (e :: r)).length = (StE r).length := by rw [StE_cons, if_neg h5]; rfl
        have := ih (E1 ++ [e]) m hE' (by omega) (fun A f B hAB hf => by
            rcases split_snoc hAB with ⟨rfl, rfl, rfl⟩ | ⟨E3, h3⟩
            · exact absurd hf h5
            · exact hno A f E3 h3 hf)
        rw [hst'] at this
        exact this
  have hcap := hL.2.2.2.2.2.2.1
  exact loop E [] N rfl (by omega) (fun A e B h => by have := congrArg List.length h; simp at this)
/-- statements that passed the check -/
theorem ckE_all : ∀ (E E2 E1 : List Ev), ckE X E (lay (0, 0) E1) E2 = 0 → E = E1 ++ E2 → ∀ A e B, E2 = A ++ e :: B → e.1 = 5 → ckB (ηE X E (lay (0, 0) (E1 ++ A)) e) (aE E (lay (0, 0) (E1 ++ A)) e) e.2.2.2.2.2 = 0
  | E, [], E1, _, _, A, e, B, h, _ => by have := congrArg List.length h; simp at this
  | E, f :: r, E1, hc, hE, A, e, B, h, h5 => by
    rw [ckE] at hc
    by_cases hf : f.1 = 5 ∧ ckB (ηE X E (lay (0, 0) E1) f) (aE E (lay (0, 0) E1) f) f.2.2.2.2.2 ≠ 0
    · rw [if_pos hf] at hc; omega
    · rw [if_neg hf] at hc
      match A, h with
      | [], h =>
        injection h with h1 h2
        subst h1
        rw [List.append_nil]
        exact Decidable.not_not.mp (fun z => hf ⟨h5, z⟩)
      | g :: A, h =>
        injection h with h1 h2
        subst h1
        have := ckE_all E r (E1 ++ [f]) (by rw [lay_app]; exact hc) (by rw [hE, List.append_assoc]; rfl) A e B h2 h5
        rw [List.append_assoc] at this
        exact this
def BytR (X : List Int32) (E : List Ev) (k : Nat) (r : Int32) : Prop := ((∀ E1 e E2, E = E1 ++ e :: E2 → e.1 = 5 → ¬ Cov E E1 e k) ∧ r = 0) ∨ (∃ E1 e E2, E = E1 ++ e :: E2 ∧ e.1 = 5 ∧ Cov E E1 e k ∧ r = (byB (ηE X E (lay (0, 0) E1) e) (aE E (lay (0, 0) E1) e) e.2.2.2.2.2).getD (k - adS (bsE E) (lay (0, 0) E1) e.2.2.2.1) 0)
def LinR (E : List Ev) (k : Nat) (r : Int32) : Prop := ((∀ E1 e E2, E = E1 ++ e :: E2 → e.1 = 5 → ¬ Cov E E1 e k) ∧ r = 0) ∨ (∃ E1 e E2, E = E1 ++ e :: E2 ∧ e.1 = 5 ∧ Cov E E1 e k ∧ r = nI e.2.2.1)
theorem byt_big {l : List Int32} (h : l.length < 2 ^ 31) (j : Nat) (hj : j < 2 ^ 31) : gwi (nI j) l.reverse = l.getD j 0 := gwi_get j l h hj
theorem wB_l (w : Int32) (n : Nat) : (wB w n).length = n := wB_len w n
theorem byI_le (η : Int32 → AT → Int32 × Bool) (a : Int32) (i : AI) : (byI η a i).length ≤ i.2.2.1 + i.2.2.2.2.length + 8 := by
  unfold byI
  split
  · rw [wB_len]; omega
  · split
    · rw [List.length_replicate]; omega
    · split
      · show 0 ≤ _; omega
      · split
        · rw [List.length_append, List.length_map, List.length_replicate]; omega
        · split
          · rw [wB_len]; omega
          · split
            · rw [aB_len]; omega
            · split
              · unfold jB
                split
                · rw [List.length_append, wB_len, wB_len]; omega
                · split
                  · rw [wB_len]; omega
                  · rw [wB_len]; omega
              · rw [wB_len]; omega
end
