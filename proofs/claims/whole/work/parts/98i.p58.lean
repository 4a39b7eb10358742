/-! ===== a statement read again: fixed numbers stay ===== -/
theorem fxF_ext {η η' : Int32 → AT → Int32 × Bool} {lo lo' : AT → Bool} (h : EqF η η' lo) (hlo : ∀ a, lo a = false → lo' a = false) {low high : Int32} {R : List XSt} (hw : PWf R) (h0 : fxF η lo low high R = 0) : fxF η' lo' low high R = 0 ∧ evV η R = evV η' R := by
  have hn : R.any (lz lo) = false := by
    unfold fxF at h0
    split at h0
    · cases h0
    · rename_i hn; simpa using hn
  have he := evV_fix h hw hn
  have hn' : R.any (lz lo') = false := by
    rw [List.any_eq_false] at hn ⊢
    intro s hs
    have := hn s hs
    unfold lz at this ⊢
    split
    · rename_i hc
      rw [if_pos hc] at this
      rw [hlo _ (by simpa using this)]
      decide
    · rename_i hc
      rw [if_neg hc] at this
      exact this
  refine ⟨?_, he⟩
  unfold fxF at h0 ⊢
  rw [if_neg (by rw [hn]; decide)] at h0
  rw [if_neg (by rw [hn']; decide), ← he]
  exact h0
section
variable {η η' : Int32 → AT → Int32 × Bool} {lo lo' : AT → Bool}
theorem f1T_ext (h : EqF η η' lo) (hlo : ∀ a, lo a = false → lo' a = false) {low high : Int32} {ts : List AT} (h0 : (f1T η lo low high ts).1 = 0) : f1T η' lo' low high ts = f1T η lo low high ts := by
  unfold f1T at h0 ⊢
  cases hc : cmpT ts with
  | none => rfl
  | some z =>
    rw [hc] at h0
    simp only [] at h0 ⊢
    by_cases hf : fxF η lo low high z.1 ≠ 0
    · rw [if_pos hf] at h0; exact absurd h0 hf
    · obtain ⟨g1, g2⟩ := fxF_ext h hlo (cmpT_wf (rest := z.2) hc) (Decidable.not_not.mp hf)
      rw [if_neg hf, if_neg (by rw [g1]; exact fun z => z rfl), g2]
theorem ldT_ext (h : EqF η η' lo) (hlo : ∀ a, lo a = false → lo' a = false) {ts : List AT} (h0 : (ldT η lo ts).1 = 0) : ldT η' lo' ts = ldT η lo ts := by
  unfold ldT at h0 ⊢
  by_cases hr : (regT 100 ts).1 ≠ 0
  · rw [if_pos hr, if_pos hr]
  rw [if_neg hr] at h0 ⊢
  rw [if_neg hr]
  cases ht : tk1 44 (regT 100 ts).2.2 with
  | none => rfl
  | some x =>
    rw [ht] at h0
    simp only [] at h0 ⊢
    cases hc : cmpT x.2 with
    | none => rfl
    | some z =>
      rw [hc] at h0
      simp only [] at h0 ⊢
      by_cases hf : fxF η lo (-2147483648) 2147483647 z.1 ≠ 0
      · rw [if_pos hf] at h0; exact absurd h0 hf
      · obtain ⟨g1, g2⟩ := fxF_ext h hlo (cmpT_wf (rest := z.2) hc) (Decidable.not_not.mp hf)
        rw [if_neg hf, if_neg (by rw [g1]; exact fun z => z rfl), g2]
theorem eqT_ext (h : EqF η η' lo) (hlo : ∀ a, lo a = false → lo' a = false) {tk : List Int32 → Bool} {ts : List AT} (h0 : (eqT η lo tk ts).1 = 0) : eqT η' lo' nk ts = eqT η lo tk ts := by
  unfold eqT at h0 ⊢
  cases ht : tk1 2 ts with
  | none => rfl
  | some x =>
    rw [ht] at h0
    simp only [] at h0 ⊢
    by_cases htk : tk x.1.nm = true
    · rw [if_pos htk] at h0; exact absurd (show (4 : Nat) = 0 from h0) (by decide)
    rw [if_neg htk] at h0 ⊢
    rw [if_neg (show ¬ nk x.1.nm = true from fun z => absurd z (by unfold nk; decide))]
    cases ht2 : tk1 44 x.2 with
    | none => rfl
    | some y =>
      rw [ht2] at h0
      simp only [] at h0 ⊢
      cases hc : cmpT y.2 with
      | none => rfl
      | some z =>
        rw [hc] at h0
        simp only [] at h0 ⊢
        by_cases hf : fxF η lo (-2147483648) 2147483647 z.1 ≠ 0
        · rw [if_pos hf] at h0; exact absurd h0 hf
        · obtain ⟨g1, g2⟩ := fxF_ext h hlo (cmpT_wf (rest := z.2) hc) (Decidable.not_not.mp hf)
          rw [if_neg hf, if_neg (by rw [g1]; exact fun z => z rfl), g2]
theorem stm_ext (h : EqF η η' lo) (hlo : ∀ a, lo a = false → lo' a = false) {tk : List Int32 → Bool} {o : OD} {ts : List AT} (h0 : (stm η lo tk o ts).1 = 0) : stm η' lo' nk o ts = stm η lo tk o ts := by
  unfold stm at h0 ⊢
  by_cases c1 : o.1 = 1 ∨ o.1 = 2
  · rw [if_pos c1, if_pos c1]
  rw [if_neg c1] at h0 ⊢
  rw [if_neg c1]
  by_cases c3 : o.1 = 3
  · rw [if_pos c3] at h0 ⊢
    rw [if_pos c3, eqT_ext h hlo h0]
  rw [if_neg c3] at h0 ⊢
  rw [if_neg c3]
  by_cases c4 : o.1 = 4
  · rw [if_pos c4, if_pos c4]
  rw [if_neg c4] at h0 ⊢
  rw [if_neg c4]
  by_cases c5 : o.1 = 5
  · rw [if_pos c5, if_pos c5]
  rw [if_neg c5] at h0 ⊢
  rw [if_neg c5]
  by_cases c6 : o.1 = 6
  · rw [if_pos c6] at h0 ⊢
    rw [if_pos c6, f1T_ext h hlo h0]
  rw [if_neg c6] at h0 ⊢
  rw [if_neg c6]
  by_cases c7 : o.1 = 7
  · rw [if_pos c7] at h0 ⊢
    rw [if_pos c7, f1T_ext h hlo h0]
  rw [if_neg c7] at h0 ⊢
  rw [if_neg c7]
  by_cases c8 : o.1 = 8
  · rw [if_pos c8] at h0 ⊢
    rw [if_pos c8, ldT_ext h hlo h0]
  rw [if_neg c8, if_neg c8]
end
/-- labels that have come to be more, or laid out -/
def ExtL : List Lb → List Lb → Prop
  | [], _ => True
  | l :: r, l' :: r' => l'.1 = l.1 ∧ l'.2.1 = l.2.1 ∧ (l.2.1 = 2 → l'.2.2 = l.2.2) ∧ ExtL r r'
  | _ :: _, [] => False
theorem ExtL_app : ∀ (E : List Ev) (s : Sz) (M : List Lb), ExtL (LbE E) (lbS s E ++ M)
  | [], s, M => trivial
  | e :: E, s, M => by
    rw [LbE_cons]
    show ExtL _ ((_ ++ lbS (stepE s e) E) ++ M)
    by_cases hk : e.1 < 5
    · rw [if_pos hk, if_pos hk]
      refine ⟨rfl, rfl, fun z => ?_, ExtL_app E (stepE s e) M⟩
      show (if e.1 = 2 then e.2.2.2.2.1 else _) = e.2.2.2.2.1
      rw [if_pos z]
    · rw [if_neg hk, if_neg hk]
      exact ExtL_app E (stepE s e) M
theorem fnd_ext (X nm : List Int32) : ∀ (Λ Λ' : List Lb) (i k : Nat), ExtL Λ Λ' → fnd X nm Λ i = some k → fnd X nm Λ' i = some k ∧ (Λ'.getD (k - i) lb0).2.1 = (Λ.getD (k - i) lb0).2.1 ∧ ((Λ.getD (k - i) lb0).2.1 = 2 → (Λ'.getD (k - i) lb0).2.2 = (Λ.getD (k - i) lb0).2.2)
  | [], Λ', i, k, _, h => by cases h
  | l :: r, [], i, k, hE, h => hE.elim
  | l :: r, l' :: r', i, k, hE, h => by
    obtain ⟨e1, e2, e3, e4⟩ := hE
    rw [fnd] at h ⊢
    rw [e1, e2]
    by_cases hc : l.2.1 < 3 ∧ nmAt X l.1 = nm
    · rw [if_pos hc] at h ⊢
      cases h
      rw [Nat.sub_self]
      exact ⟨rfl, e2, e3⟩
    · rw [if_neg hc] at h ⊢
      obtain ⟨g1, g2, g3⟩ := fnd_ext X nm r r' (i + 1) k e4 h
      have hk := (fnd_lt X nm r (i + 1) k h).1
      rw [show k - i = (k - (i + 1)) + 1 by omega]
      exact ⟨g1, g2, g3⟩
theorem lo_ext {X : List Int32} {Λ Λ' : List Lb} (h : ExtL Λ Λ') (a : AT) (ha : loR X Λ a = false) : loR X Λ' a = false ∧ ∀ base addr start base' addr' start', ηR X Λ base addr start 2 a = ηR X Λ' base' addr' start' 2 a := by
  unfold loR at ha ⊢
  by_cases c1 : a.nm = dotB
  · rw [if_pos c1] at ha; cases ha
  rw [if_neg c1] at ha ⊢
  by_cases c2 : 0 ≤ regR a.nm
  · rw [if_pos c2] at ha; cases ha
  rw [if_neg c2] at ha ⊢
  cases hf : fnd X a.nm Λ 0 with
  | none => rw [hf] at ha; cases ha
  | some k =>
    rw [hf] at ha
    have hk2 : (Λ.getD k lb0).2.1 = 2 := by
      unfold cstO at ha
      simpa using ha
    obtain ⟨g1, g2, g3⟩ := fnd_ext X a.nm Λ Λ' 0 k h hf
    rw [Nat.sub_zero] at g2 g3
    rw [g1]
    refine ⟨?_, fun base addr start base' addr' start' => ?_⟩
    · show (!decide ((Λ'.getD k lb0).2.1 = 2)) = false
      rw [g2, hk2]
      rfl
    · unfold ηR
      rw [if_neg (by decide), if_neg (by decide), if_pos rfl, if_neg c2, if_neg (by decide), if_neg (by decide), if_pos rfl, if_neg c2, hf, g1]
      show (valL base (Λ.getD k lb0), false) = (valL base' (Λ'.getD k lb0), false)
      unfold valL
      rw [g2, hk2, if_neg (by omega), if_neg (by omega), g3 hk2]
theorem EqF_ext {X : List Int32} {Λ Λ' : List Lb} (h : ExtL Λ Λ') (base addr base' addr' : Int32) (start start' : Nat) : EqF (ηR X Λ base addr start) (ηR X Λ' base' addr' start') (loR X Λ) := by
  intro k a hk h7 hz
  unfold lz at hz
  by_cases k2 : k = 2
  · rw [if_pos (Or.inl k2)] at hz
    rw [k2]
    exact (lo_ext h a hz).2 _ _ _ _ _ _
  by_cases k7 : k = 7
  · rw [if_pos (Or.inr k7)] at hz
    exfalso
    have hz' : loR X Λ a = false := hz
    unfold loR at hz'
    rw [if_pos (h7 k7)] at hz'
    cases hz'
  rw [if_neg (by simp [k2, k7])] at hz
  unfold isOp at hk
  simp only [decide_eq_true_eq] at hk
  have hz' : ¬ (k = 8 ∨ k = 9) := of_decide_eq_false hz
  have k3 : k = 3 := by
    rcases hk with e | e | e | e | e
    · exact e
    · exact absurd e k2
    · exact absurd e k7
    · exact absurd (Or.inl e) hz'
    · exact absurd (Or.inr e) hz'
  unfold ηR
  rw [if_pos k3, if_pos k3]
/-- a statement of the text, read with all labels known -/
theorem stm_again {X : List Int32} {E1 E2 : List Ev} {s : Sz} {o : OD} {ts : List AT} (h0 : (stK X (LbE E1) o ts).1 = 0) (base addr : Int32) (start : Nat) : stm (ηR X (lbS s (E1 ++ E2)) base addr start) (loR X (lbS s (E1 ++ E2))) nk o ts = stK X (LbE E1) o ts := by
  have hx : ExtL (LbE E1) (lbS s (E1 ++ E2)) := by rw [lbS_app]; exact ExtL_app _ _ _
  exact stm_ext (EqF_ext hx _ _ _ _ _ _) (fun a ha => (lo_ext hx a ha).1) h0
def baseN (T : Nat) : Nat := (T + 1023) / 1024 * 1024
theorem div_1024 {n : Nat} (h : n < 2 ^ 31) : nI n / 1024 = nI (n / 1024) := by
  apply Int32.toInt_inj.mp
  rw [Int32.toInt_div, nI_toInt h, nI_toInt (by omega)]
  show ((n : Int).tdiv 1024).bmod (2 ^ 32) = _
  rw [Int.tdiv_eq_ediv_of_nonneg (by omega)]
  unfold Int.bmod
  simp only []
  split <;> omega
theorem mul_1024 (n : Nat) : nI n * 1024 = nI (n * 1024) := by
  unfold nI
  rw [show (1024 : Int32) = Int32.ofNat 1024 from rfl, ← Int32.ofNat_mul]
theorem baseR_eq {σ : MS} {T : Nat} (h : σ.1 6 = nI T) (hT : T < 2 ^ 30) : baseR σ = nI (baseN T) := by
  unfold baseR
  rw [h, show (1023 : Int32) = nI 1023 from rfl, nI_add, div_1024 (by omega), mul_1024]
  rfl
theorem M_base_eq {σ : MS} {T : Nat} (h : σ.1 6 = nI T) (hT : T < 2 ^ 30) : M_base σ = some (nI (baseN T)) := by
  unfold M_base
  rw [gd_t (by decide)]
  exact congrArg some (baseR_eq h hT)
