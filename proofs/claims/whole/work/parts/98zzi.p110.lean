/-! ===== the law's invariant ===== -/
theorem TY.fq {X : List Int32} {σ τ : MS} (h : TY X σ) (hF : FQ σ τ) : TY X τ := by
  obtain ⟨h1, h2, h3, h4⟩ := h
  exact ⟨by rw [hF.1 1 (by decide) (by decide) (by decide)]; exact h1, h2, fun k hk => by rw [hF.2 0 (by decide)]; exact h3 k hk, h4⟩
def IVl (op re od : List Int32) (sG sE sN sP sI : CS) (σ : MS) : Prop := (sG.1 0 = 0 ∧ σ.1 3 = 0) ∨ (sG.1 0 = 1 ∧ σ.1 3 = 1 ∧ ∃ XA ns Y K V so va, (∀ c ∈ XA, okT c) ∧ LdC XA ns Y K V so va (stX XA) sE sN sP sI op re od ∧ LdS XA (stX XA).2 (stX XA).1 σ ∧ ckE XA (stX XA).2 (0, 0) (stX XA).2 = 0)
theorem IVl.fq {op re od : List Int32} {sG sE sN sP sI : CS} {σ τ : MS} (h : IVl op re od sG sE sN sP sI σ) (hF : FQ σ τ) : IVl op re od sG sE sN sP sI τ := by
  have e3 : τ.1 3 = σ.1 3 := hF.1 3 (by decide) (by decide) (by decide)
  rcases h with ⟨h1, h2⟩ | ⟨h1, h2, XA, ns, Y, K, V, so, va, g1, g2, g3, g4⟩
  · exact Or.inl ⟨h1, e3.trans h2⟩
  · exact Or.inr ⟨h1, e3.trans h2, XA, ns, Y, K, V, so, va, g1, g2, g3.fq hF, g4⟩
/-- what feed() and clear() change of the reference -/
theorem FQ_01 {σ τ : MS} (h1 : ∀ j, j ≠ 0 → j ≠ 1 → τ.1 j = σ.1 j) (h2 : ∀ a, a ≠ 0 → τ.2 a = σ.2 a) {X : List Int32} {E : List Ev} {k : Nat} (h : LdS X E k σ) : LdS X E k τ := by
  obtain ⟨p1, p2, p3, p4, p5, p6, p7, p8, p9, p10, p11, p12⟩ := h
  refine ⟨⟨by rw [h1 2 (by decide) (by decide)]; exact p1.size, fun q hq => by rw [h2 1 (by decide)]; exact p1.text q hq, p1.small⟩, p2, p3.fx (h1 5 (by decide) (by decide)) (h2 5 (by decide)) (h2 6 (by decide)), by rw [h1 6 (by decide) (by decide)]; exact p4, by rw [h1 7 (by decide) (by decide)]; exact p5, by rw [h1 4 (by decide) (by decide)]; exact p6, p7, fun i hi => ?_, fun i hi => by rw [h2 3 (by decide)]; exact p9 i hi, by rw [h1 15 (by decide) (by decide)]; exact p10, by rw [h1 14 (by decide) (by decide)]; exact p11, by rw [h1 8 (by decide) (by decide)]; exact p12⟩
  have := p8 i hi
  unfold StQ at this ⊢
  rw [h2 2 (by decide), h2 4 (by decide)]
  exact this
theorem IVl.f1 {op re od : List Int32} {sG sE sN sP sI : CS} {σ τ : MS} (h : IVl op re od sG sE sN sP sI σ) (h1 : ∀ j, j ≠ 0 → j ≠ 1 → τ.1 j = σ.1 j) (h2 : ∀ a, a ≠ 0 → τ.2 a = σ.2 a) : IVl op re od sG sE sN sP sI τ := by
  have e3 : τ.1 3 = σ.1 3 := h1 3 (by decide) (by decide)
  rcases h with ⟨a1, a2⟩ | ⟨a1, a2, XA, ns, Y, K, V, so, va, g1, g2, g3, g4⟩
  · exact Or.inl ⟨a1, e3.trans a2⟩
  · exact Or.inr ⟨a1, e3.trans a2, XA, ns, Y, K, V, so, va, g1, g2, FQ_01 h1 h2 g3, g4⟩
abbrev QT (sX sE sY sF sN sT sP sI : CS) : Nat × Nat := (2 * sX.2.2 0 + (PT sE sY sF sN sT sP sI 0 0).1, sX.2.2 0 + (PT sE sY sF sN sT sP sI 0 0).2)
def INVp (ns0 : List (List Int32)) (op re od : List Int32) (c1 c2 k : Nat) (q : LSt) (cc d : Nat) : Prop := match q with
  | (sG, _, _, sX, sE, sY, sF, sN, sT, sP, sI, σ) => (∃ X, RowL sX X ∧ TY X σ ∧ X.length ≤ 8 * k) ∧ k ≤ 512 ∧ (∃ Y, RowL sY Y) ∧ CNm ns0 op re od sN ∧ CTk sT ∧ CVl sE sF sP sI ∧ IVl op re od sG sE sN sP sI σ ∧ d ≤ (QT sX sE sY sF sN sT sP sI).1 + 6 * k + c1 ∧ 64 * cc ≤ (QT sX sE sY sF sN sT sP sI).2 + 64 * k + c2
section
variable {N : Nat} {ns0 : List (List Int32)} {op re od : List Int32} {c1 c2 : Nat}
theorem INV_q {k cc d : Nat} {sG sR sL sX sE sY sF sN sT sP sI : CS} {σ σ' : MS} (hk : k < 512) (h : INVp ns0 op re od c1 c2 k (sG, sR, sL, sX, sE, sY, sF, sN, sT, sP, sI, σ) cc d) (hF : FQ σ σ') {dc ds : Nat} (h1 : ds ≤ 6) (h2 : dc ≤ 1) : INVp ns0 op re od c1 c2 (k + 1) (sG, sR, sL, sX, sE, sY, sF, sN, sT, sP, sI, σ') (cc + dc) (d + ds) := by
  obtain ⟨⟨X, x1, x2, x3⟩, g1, g2, g3, g4, g5, g6, g7, g8⟩ := h
  exact ⟨⟨X, x1, x2.fq hF, by omega⟩, by omega, g2, g3, g4, g5, g6.fq hF, by omega, by omega⟩
theorem INV_bound {k cc d : Nat} {q : LSt} (h : INVp ns0 op re od c1 c2 k q cc d) (b1 : c1 ≤ 1000000) (b2 : c2 ≤ 10000000) : cc ≤ 601024 ∧ d ≤ 7293034 := by
  obtain ⟨sG, sR, sL, sX, sE, sY, sF, sN, sT, sP, sI, σ⟩ := q
  obtain ⟨⟨X, x1, x2, x3⟩, g1, ⟨Y, y1⟩, ⟨-, ms, so, va, n1⟩, ⟨L, c, t1⟩, ⟨⟨K, V, S, Z, f1⟩, ⟨l, p1⟩, -, l1, ⟨e0, q0⟩, ⟨e1, q1⟩, -, -⟩, g6, g7, g8⟩ := h
  have hX := x1.big
  have hY := y1.big
  have n0' : sN.2.2 0 ≤ 140000 := n1.r0.big
  have n1' : sN.2.2 1 ≤ 140000 := n1.r1.big
  have n2' : sN.2.2 2 ≤ 140000 := n1.r2.big
  have n3' : sN.2.2 3 ≤ 140000 := n1.r3.big
  have n4' : sN.2.2 4 ≤ 140000 := n1.r4.big
  have n5' : sN.2.2 5 ≤ 140000 := n1.r5.big
  have n6' : sN.2.2 6 ≤ 140000 := n1.r6.big
  have n7' : sN.2.2 7 ≤ 140000 := n1.r7.big
  have n8' : sN.2.2 8 ≤ 140000 := n1.r8.big
  have hcN : capN sN ≤ 1260000 := by unfold capN; omega
  have hT : sT.2.2 0 ≤ 140000 := by rw [t1.c0]; exact t1.big
  have f0' : sF.2.2 0 ≤ 140000 := f1.1.big
  have f1' : sF.2.2 1 ≤ 140000 := f1.2.1.big
  have f2' : sF.2.2 2 ≤ 140000 := f1.2.2.1.big
  have f3' : sF.2.2 3 ≤ 140000 := f1.2.2.2.big
  have hcF : capF sF ≤ 560000 := by unfold capF; omega
  have hp : sP.2.2 0 ≤ 140000 := p1.big
  have he0 : sE.2.2 0 ≤ 140000 := q0.big
  have he1 : sE.2.2 1 ≤ 140000 := q1.big
  have hi0 := l1.2.2.1
  have hi1 := l1.2.2.2
  simp only [] at g7 g8
  constructor <;> omega
end
