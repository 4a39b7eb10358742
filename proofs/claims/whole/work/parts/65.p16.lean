/-! ===== the reference's expression ===== -/
def OpN (N : Nat) (X : List Int32) (σ0 : MS) (η : Int32 → AT → Int32 × Bool) (lo : AT → Bool) : Prop := ∀ (a : AT) (σ : MS) (S V : List Int32) (m l : Bool), TokF X a → a.k = 2 → FE σ0 σ → σ.1 11 = nI a.p → σ.1 12 = nI a.e → PS σ S V → S.length + V.length < 4100 → σ.1 24 = b2 m → σ.1 26 = b2 l →
  ∃ σ', M_name N σ = some (0, σ') ∧ PS σ' S ((η (nmK a) a).1 :: V) ∧ σ'.1 24 = b2 (m || (η (nmK a) a).2) ∧ σ'.1 26 = b2 (l || lo a) ∧ FE σ0 σ' ∧ σ'.1 14 = σ.1 14 ∧ σ'.1 25 = σ.1 25 ∧ σ'.1 9 = σ.1 9
def OpB (N : Nat) (X : List Int32) (σ0 : MS) (η : Int32 → AT → Int32 × Bool) : Prop := ∀ (a : AT) (σ : MS) (m : Bool), TokF X a → a.k = 5 → FE σ0 σ → σ.1 24 = b2 m →
  ∃ σ', M_near N (tw X a.p - 48) (if tw X (a.p + 1) = 102 then 1 else 0) σ = some ((η (nrK a) a).1, σ') ∧ σ'.1 24 = b2 (m || (η (nrK a) a).2) ∧ (∀ j, j ≠ 24 → σ'.1 j = σ.1 j) ∧ σ'.2 = σ.2
def OpP (N : Nat) (X : List Int32) (σ0 : MS) : Prop := ∀ (a : AT) (σ : MS), TokF X a → a.k = 2 → FE σ0 σ → ∃ z : Int64, M_packed N (nI a.p) (nI a.e) σ = some z ∧ (z = 584 ↔ a.nm = hiB) ∧ (z = 972 ↔ a.nm = loB)
def At9 (X : List Int32) (σ : MS) : Prop := ∃ q, q ≤ X.length ∧ σ.1 9 = nI q
def XB (X : List Int32) (σ0 : MS) (ln : Nat) (r : Option (Int32 × MS)) : Prop := ∃ v σ', r = some (v, σ') ∧ σ'.1 14 = nI (1 + 16 * ln) ∧ FE σ0 σ' ∧ At9 X σ'
def XG (X : List Int32) (η : Int32 → AT → Int32 × Bool) (lo : AT → Bool) (σ0 : MS) (ln : Nat) (R2 : List XSt) (rest : List AT) (r : Option (Int32 × MS)) : Prop :=
  ∃ v σ' m d q', evR η R2 = ([v], m, d) ∧ r = some (v, σ') ∧ FE σ0 σ' ∧ σ'.1 14 = (if σ0.1 17 = 2 ∧ (m || d) = true then nI ((if m = true then 8 else 9) + 16 * ln) else 0) ∧ σ'.1 9 = nI q' ∧ lexS X q' = rest ∧ q' ≤ X.length ∧ σ'.1 24 = b2 m ∧ σ'.1 25 = b2 d ∧ σ'.1 26 = b2 (R2.any (lz lo))
def XR (X : List Int32) (η : Int32 → AT → Int32 × Bool) (lo : AT → Bool) (σ0 : MS) (ln : Nat) (c : Option (List Int32 × List XSt × Nat × List AT)) (r : Option (Int32 × MS)) : Prop := match c with
  | none => XB X σ0 ln r
  | some (S1, R1, o1, rest) => if 0 < o1 then XB X σ0 ln r else XG X η lo σ0 ln (stl 1 S1 R1).2 rest r
/-- the loop's state beside the class's -/
def LI (X : List Int32) (η : Int32 → AT → Int32 × Bool) (lo : AT → Bool) (σ0 σ : MS) (w : Bool) (o q : Nat) (S : List Int32) (R : List XSt) : Prop :=
  q ≤ X.length ∧ σ.1 9 = nI q ∧ FE σ0 σ ∧ σ.1 14 = 0 ∧ WFs S ∧ o = c40 S ∧ S.length + R.length ≤ q ∧ ∃ m d, σ.1 24 = b2 m ∧ σ.1 25 = b2 d ∧ σ.1 26 = b2 (R.any (lz lo)) ∧
    (if w = true then ∃ V, PS σ (S.map sg) V ∧ evR η R = (V, m, d) ∧ V.length = nB S else ∃ v W, PS σ ((restU S).map sg) (apU (S.map sg) v :: W) ∧ evR η R = (v :: W, m, d) ∧ W.length = nB S)
theorem op_fin {N : Nat} (hN : 4200 < N) {σ : MS} {S V : List Int32} {x : Int32} (hw : WFs S) (hl : S.length < 4100) (h : PS σ (S.map sg) (x :: V)) : ∃ σ', M_operand_242 N σ = some (1, σ') ∧ PS σ' ((restU S).map sg) (apU (S.map sg) x :: V) ∧ FX σ σ' ∧ σ'.1 25 = σ.1 25 := by
  obtain ⟨σ', a1, a2, a3, a4⟩ := M_bind_eq (N := N) N (S.map sg) V x σ h (by rw [List.length_map]; omega)
  refine ⟨σ', ?_, by rw [← restU_drU S hw]; exact a2, a3, a4⟩
  unfold M_operand_242 M_bind
  rw [a1]
  rfl
theorem isOp_nm (a : AT) : isOp (nmK a) = true ∧ (nmK a = 2 ∨ nmK a = 7) := by
  unfold nmK; split <;> decide
theorem isOp_nr (a : AT) : isOp (nrK a) = true ∧ ¬ (nrK a = 2 ∨ nrK a = 7) ∧ (nrK a = 8 ∨ nrK a = 9) := by
  unfold nrK; split <;> decide
theorem evs_op {η : Int32 → AT → Int32 × Bool} {R : List XSt} {V : List Int32} {m d : Bool} {k : Int32} {a : AT} (hk : isOp k = true) (h : evR η R = (V, m, d)) : evR η (R ++ [(k, a)]) = ((η k a).1 :: V, m || (η k a).2, d) := by
  rw [evR_app, h]
  unfold evs
  rw [if_pos hk]
/-- behind an operand -/
theorem LI_op {X : List Int32} {η : Int32 → AT → Int32 × Bool} {lo : AT → Bool} {σ0 σ : MS} {o q : Nat} {S : List Int32} {R : List XSt} {V : List Int32} {m d : Bool} {k : Int32} {a : AT} (he : a.e ≤ X.length) (hq : q < a.e) (h9 : σ.1 9 = nI a.e) (hF : FE σ0 σ) (hf : σ.1 14 = 0) (hw : WFs S) (ho : o = c40 S) (hs : S.length + R.length ≤ q) (hk : isOp k = true) (h2 : evR η R = (V, m, d)) (hnb : V.length = nB S)
    (h24 : σ.1 24 = b2 (m || (η k a).2)) (h25 : σ.1 25 = b2 d) (h26 : σ.1 26 = b2 (R.any (lz lo) || lz lo (k, a))) (hP : PS σ ((restU S).map sg) (apU (S.map sg) (η k a).1 :: V)) : LI X η lo σ0 σ false o a.e S (R ++ [(k, a)]) := by
  refine ⟨he, h9, hF, hf, hw, ho, by simp; omega, m || (η k a).2, d, h24, h25, by rw [h26]; simp, ?_⟩
  rw [if_neg (by decide)]
  exact ⟨_, V, hP, evs_op hk h2, hnb⟩
theorem b2_or (a b : Bool) : b2 (a || b) = if b2 a = 0 then b2 b else 1 := by cases a <;> cases b <;> rfl
theorem nr_f {X : List Int32} {a : AT} {d : Int32} (hd : isDg (tw X a.p) = true) (he : d = tw X a.p - 48) (hv : a.v = 2 * d + (if tw X (a.p + 1) = 102 then 1 else 0)) : (a.v &&& 1 = 1) ↔ tw X (a.p + 1) = 102 := by
  have key : ∀ c : Int32, isDg c = true → (2 * (c - 48) + 1) &&& 1 = 1 ∧ (2 * (c - 48) + 0) &&& 1 = 0 := by
    intro c hc
    have h48 : (48 : Int32) ≤ c ∧ c ≤ 57 := by
      unfold isDg at hc
      simp only [Bool.and_eq_true, decide_eq_true_eq] at hc
      exact hc
    have h1 := Int32.le_iff_toInt_le.mp h48.1
    have h2 := Int32.le_iff_toInt_le.mp h48.2
    have e : c = 48 ∨ c = 49 ∨ c = 50 ∨ c = 51 ∨ c = 52 ∨ c = 53 ∨ c = 54 ∨ c = 55 ∨ c = 56 ∨ c = 57 := by
      have : c.toInt = 48 ∨ c.toInt = 49 ∨ c.toInt = 50 ∨ c.toInt = 51 ∨ c.toInt = 52 ∨ c.toInt = 53 ∨ c.toInt = 54 ∨ c.toInt = 55 ∨ c.toInt = 56 ∨ c.toInt = 57 := by
        have g1 : (48 : Int32).toInt = 48 := rfl
        have g2 : (57 : Int32).toInt = 57 := rfl
        omega
      rcases this with h | h | h | h | h | h | h | h | h | h
      · exact Or.inl (Int32.toInt_inj.mp h)
      · exact Or.inr (Or.inl (Int32.toInt_inj.mp h))
      · exact Or.inr (Or.inr (Or.inl (Int32.toInt_inj.mp h)))
      · exact Or.inr (Or.inr (Or.inr (Or.inl (Int32.toInt_inj.mp h))))
      · exact Or.inr (Or.inr (Or.inr (Or.inr (Or.inl (Int32.toInt_inj.mp h)))))
      · exact Or.inr (Or.inr (Or.inr (Or.inr (Or.inr (Or.inl (Int32.toInt_inj.mp h))))))
      · exact Or.inr (Or.inr (Or.inr (Or.inr (Or.inr (Or.inr (Or.inl (Int32.toInt_inj.mp h)))))))
      · exact Or.inr (Or.inr (Or.inr (Or.inr (Or.inr (Or.inr (Or.inr (Or.inl (Int32.toInt_inj.mp h))))))))
      · exact Or.inr (Or.inr (Or.inr (Or.inr (Or.inr (Or.inr (Or.inr (Or.inr (Or.inl (Int32.toInt_inj.mp h)))))))))
      · exact Or.inr (Or.inr (Or.inr (Or.inr (Or.inr (Or.inr (Or.inr (Or.inr (Or.inr (Int32.toInt_inj.mp h)))))))))
    rcases e with h | h | h | h | h | h | h | h | h | h <;> subst h <;> decide
  obtain ⟨k1, k0⟩ := key _ hd
  rw [hv, he]
  by_cases c : tw X (a.p + 1) = 102
  · rw [if_pos c, k1]; exact ⟨fun _ => c, fun _ => rfl⟩
  · rw [if_neg c, k0]; exact ⟨fun z => absurd z (by decide), fun z => absurd z c⟩
