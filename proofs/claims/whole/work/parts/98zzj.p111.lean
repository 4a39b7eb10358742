/-! ===== a step of the law keeps the invariant ===== -/
section
variable {N : Nat} {ns0 : List (List Int32)} {op re od : List Int32} {c1 c2 : Nat}
theorem INV_step (hN : 150000 < N) (hK0 : TbK ns0 op re od) (hl0 : ns0.length < 50000) (hf0 : ns0.flatten.length < 50000) (k : Nat) (q : LSt) (cc d : Nat) (a0 a1 a2 a3 : Int32) (hk : k < 512) (h : INVp ns0 op re od c1 c2 k q cc d) : ∃ (q' : LSt) (dc ds : Nat), LStep N (a0 &&& 15) a1 a2 a3 q q' dc ds ∧ INVp ns0 op re od c1 c2 (k + 1) q' (cc + dc) (d + ds) := by
  obtain ⟨sG, sR, sL, sX, sE, sY, sF, sN, sT, sP, sI, σ⟩ := q
  have h' := h
  obtain ⟨⟨X, x1, x2, x3⟩, g1, g2, g3, g4, g5, g6, g7, g8⟩ := h
  generalize a0 &&& 15 = w
  unfold LStep
  by_cases w0 : w = 0
  · simp only [if_pos w0]
    obtain ⟨X', r, σ', l1, ⟨v, u, dc, ds, c', e1, hc, rfl, e3, rfl⟩, e5, e6, e7, e8, e9⟩ := Q_feed (N := N) (sG := sG) (sR := sR) (sL := sL) (sP := sP) (sI := sI) (sE := sE) (sY := sY) (sN := sN) (sT := sT) (sF' := sF) (x := 0) (y := 0) (by omega) x1 x2 (by omega) (wdZ a1 a2) a3
    refine ⟨(sG, sR, sL, u, sE, sY, sF, sN, sT, sP, sI, σ'), dc, ds, ⟨_, u, σ', e1, e5, rfl⟩, ⟨X', e3, e6, by omega⟩, by omega, g2, g3, g4, g5, g6.f1 e8 e9, ?_, ?_⟩
    · have := hc.1; simp only [] at this g7 ⊢; omega
    · have := hc.2; simp only [] at this g8 ⊢; omega
  simp only [if_neg w0]
  by_cases w1 : w = 1
  · simp only [if_pos w1]
    obtain ⟨σ', m1, m2, m3, m4, m5⟩ := M_clear_eq x2
    obtain ⟨u, p1, p2, p3⟩ := C_clear_eq (sG := sG) (sR := sR) (sL := sL) (sP := sP) (sI := sI) (sE := sE) (sY := sY) (sN := sN) (sT := sT) (sF' := sF) x1
    refine ⟨(sG, sR, sL, u, sE, sY, sF, sN, sT, sP, sI, σ'), 0, 0, ⟨_, u, σ', p1, m1, rfl, rfl, rfl⟩, ⟨[], p2, m2, Nat.zero_le _⟩, by omega, g2, g3, g4, g5, g6.f1 m4 (fun a _ => by rw [m5]), ?_, ?_⟩
    · simp only [] at g7 ⊢; rw [p3]; omega
    · simp only [] at g8 ⊢; rw [p3]; omega
  simp only [if_neg w1]
  by_cases w2 : w = 2
  · simp only [if_pos w2]
    obtain ⟨Y, y1⟩ := g2
    obtain ⟨v, u, dc, ds, c', e1, hc, rfl, rfl, b3, b4, b5, b6, b7, b8⟩ := C_asm (sG := sG) (sR := sR) (sL := sL) (x := 0) (y := 0) hN x2.2.1 x2.2.2.2 x1 hK0 hl0 hf0 y1 g3 g4 g5
    obtain ⟨v2, σ', m1, rfl, m3, m4, m5⟩ := M_assemble_eq (N := N) (by omega) x2
    refine ⟨(u.1, sR, u.2.1, sX, u.2.2.1, u.2.2.2.1, u.2.2.2.2.1, u.2.2.2.2.2.1, u.2.2.2.2.2.2.1, u.2.2.2.2.2.2.2.1, u.2.2.2.2.2.2.2.2, σ'), dc, ds, ⟨_, u, σ', e1, m1, rfl⟩, ⟨X, x1, ⟨by rw [m3.1]; exact x2.1, x2.2.1, fun j hj => by rw [m3.2]; exact x2.2.2.1 j hj, x2.2.2.2⟩, by omega⟩, by omega, b4, b5, b6, b7, ?_, ?_, ?_⟩
    · by_cases hz : ansX X = 0
      · obtain ⟨q1, q2, q3, -⟩ := m5 hz
        obtain ⟨ns, Y', K, V, so, va, hl⟩ := b8 hz
        exact Or.inr ⟨by rw [b3, cF_at, decide_eq_true hz]; rfl, q1, X, ns, Y', K, V, so, va, x2.2.2.2, hl, q2, q3⟩
      · exact Or.inl ⟨by rw [b3, cF_at, decide_eq_false hz]; rfl, m4 hz⟩
    · have := hc.1; simp only [] at this g7 ⊢; omega
    · have := hc.2; simp only [] at this g8 ⊢; omega
  simp only [if_neg w2]
  obtain ⟨hKN, ms, so0, va0, hNL⟩ := g3
  by_cases w3 : w = 3
  · simp only [if_pos w3]
    rcases g6 with ⟨q1, q2⟩ | ⟨q1, q2, XA, ns, Y, K, V, so, va, r1, r2, r3, r4⟩
    · obtain ⟨σ', hF, r, z1, z2, z3⟩ := Z_size (N := N) (sR := sR) (sL := sL) (sX := sX) (sE := sE) (sY := sY) (sF' := sF) (sN := sN) (sT := sT) (sP := sP) (sI := sI) q1 q2 a1
      exact ⟨_, 1, 6, ⟨σ', rfl, rfl, rfl, Or.inr (Or.inl ⟨r, z1, z2, by unfold M_thrown; rw [z3]⟩)⟩, INV_q hk h' hF (by omega) (by omega)⟩
    · obtain ⟨σ', hF, hh⟩ := Q_size (N := N) (sR := sR) (sL := sL) (sX := sX) (sY := sY) (sF := sF) (sT := sT) (by omega) r2 q1 r3 q2 a1
      rcases hh with ⟨r, z1, z2, z3⟩ | ⟨r, z1, z2, z3⟩
      · exact ⟨_, 1, 6, ⟨σ', rfl, rfl, rfl, Or.inl ⟨r, z1, z2, by unfold M_thrown; rw [z3]⟩⟩, INV_q hk h' hF (by omega) (by omega)⟩
      · exact ⟨_, 1, 6, ⟨σ', rfl, rfl, rfl, Or.inr (Or.inr ⟨r, z1, z2, by unfold M_thrown; rw [z3]⟩)⟩, INV_q hk h' hF (by omega) (by omega)⟩
  simp only [if_neg w3]
  by_cases w4 : w = 4
  · simp only [if_pos w4]
    rcases g6 with ⟨q1, q2⟩ | ⟨q1, q2, XA, ns, Y, K, V, so, va, r1, r2, r3, r4⟩
    · obtain ⟨σ', hF, r, z1, z2, z3⟩ := Z_byteAt (N := N) (sR := sR) (sL := sL) (sX := sX) (sE := sE) (sY := sY) (sF' := sF) (sN := sN) (sT := sT) (sP := sP) (sI := sI) q1 q2 a1
      exact ⟨_, 1, 6, ⟨σ', rfl, rfl, rfl, Or.inr ⟨r, z1, z2, by unfold M_thrown; rw [z3]⟩⟩, INV_q hk h' hF (by omega) (by omega)⟩
    · obtain ⟨σ', hF, hh⟩ := Q_byteAt (N := N) (sR := sR) (sL := sL) (sX := sX) (sY := sY) (sF := sF) (sT := sT) (by omega) r2 q1 r3 q2 r4 a1
      rcases hh with ⟨r, z1, z2, z3⟩ | ⟨r, z1, z2, z3⟩
      · exact ⟨_, 1, 6, ⟨σ', rfl, rfl, rfl, Or.inl ⟨r, z1, z2, by unfold M_thrown; rw [z3]⟩⟩, INV_q hk h' hF (by omega) (by omega)⟩
      · exact ⟨_, 1, 6, ⟨σ', rfl, rfl, rfl, Or.inr ⟨r, z1, z2, by unfold M_thrown; rw [z3]⟩⟩, INV_q hk h' hF (by omega) (by omega)⟩
  simp only [if_neg w4]
  by_cases w5 : w = 5
  · simp only [if_pos w5]
    rcases g6 with ⟨q1, q2⟩ | ⟨q1, q2, XA, ns, Y, K, V, so, va, r1, r2, r3, r4⟩
    · obtain ⟨σ', hF, r, z1, z2, z3⟩ := Z_address (N := N) (sR := sR) (sL := sL) (sX := sX) (sE := sE) (sY := sY) (sF' := sF) (sN := sN) (sT := sT) (sP := sP) (sI := sI) (by omega) q1 q2 a1
      exact ⟨_, 1, 6, ⟨σ', rfl, rfl, rfl, Or.inr ⟨r, z1, z2, by unfold M_thrown; rw [z3]⟩⟩, INV_q hk h' hF (by omega) (by omega)⟩
    · obtain ⟨σ', hF, hh⟩ := Q_address (N := N) (sR := sR) (sL := sL) (sX := sX) (sY := sY) (sF := sF) (sT := sT) (by omega) r2 q1 r3 q2 a1
      rcases hh with ⟨r, z1, z2, z3⟩ | ⟨r, z1, z2, z3⟩
      · exact ⟨_, 1, 6, ⟨σ', rfl, rfl, rfl, Or.inl ⟨r, z1, z2, by unfold M_thrown; rw [z3]⟩⟩, INV_q hk h' hF (by omega) (by omega)⟩
      · exact ⟨_, 1, 6, ⟨σ', rfl, rfl, rfl, Or.inr ⟨r, z1, z2, by unfold M_thrown; rw [z3]⟩⟩, INV_q hk h' hF (by omega) (by omega)⟩
  simp only [if_neg w5]
  by_cases w6 : w = 6
  · simp only [if_pos w6]
    rcases g6 with ⟨q1, q2⟩ | ⟨q1, q2, XA, ns, Y, K, V, so, va, r1, r2, r3, r4⟩
    · obtain ⟨σ', hF, r, z1, z2, z3⟩ := Z_letter (N := N) (sR := sR) (sL := sL) (sX := sX) (sE := sE) (sY := sY) (sF' := sF) (sN := sN) (sT := sT) (sP := sP) (sI := sI) (by omega) hNL q1 q2 a1 a2
      exact ⟨_, 1, 6, ⟨σ', rfl, rfl, rfl, Or.inr ⟨r, z1, z2, by unfold M_thrown; rw [z3]⟩⟩, INV_q hk h' hF (by omega) (by omega)⟩
    · obtain ⟨σ', hF, hh⟩ := Q_letter (N := N) (sR := sR) (sL := sL) (sX := sX) (sY := sY) (sF := sF) (sT := sT) (by omega) r2 r1 q1 r3 q2 a1 a2
      rcases hh with ⟨r, z1, z2, z3⟩ | ⟨r, z1, z2, z3⟩
      · exact ⟨_, 1, 6, ⟨σ', rfl, rfl, rfl, Or.inl ⟨r, z1, z2, by unfold M_thrown; rw [z3]⟩⟩, INV_q hk h' hF (by omega) (by omega)⟩
      · exact ⟨_, 1, 6, ⟨σ', rfl, rfl, rfl, Or.inr ⟨r, z1, z2, by unfold M_thrown; rw [z3]⟩⟩, INV_q hk h' hF (by omega) (by omega)⟩
  simp only [if_neg w6]
  by_cases w7 : w = 7
  · simp only [if_pos w7]
    rcases g6 with ⟨q1, q2⟩ | ⟨q1, q2, XA, ns, Y, K, V, so, va, r1, r2, r3, r4⟩
    · obtain ⟨r, σ', hF, z1, z2⟩ := Z_line (N := N) (sR := sR) (sL := sL) (sX := sX) (sE := sE) (sY := sY) (sF' := sF) (sN := sN) (sT := sT) (sP := sP) (sI := sI) q1 q2 a1
      exact ⟨_, 0, 0, ⟨r, σ', z1, z2, rfl, rfl, rfl⟩, INV_q hk h' hF (by omega) (by omega)⟩
    · obtain ⟨r, σ', hF, z1, z2⟩ := Q_line (N := N) (sR := sR) (sL := sL) (sX := sX) (sY := sY) (sF := sF) (sT := sT) (by omega) r2 q1 r3 q2 a1
      exact ⟨_, 0, 0, ⟨r, σ', z1, z2, rfl, rfl, rfl⟩, INV_q hk h' hF (by omega) (by omega)⟩
  simp only [if_neg w7]
  by_cases w8 : w = 8
  · simp only [if_pos w8]
    rcases g6 with ⟨q1, q2⟩ | ⟨q1, q2, XA, ns, Y, K, V, so, va, r1, r2, r3, r4⟩
    · obtain ⟨r, σ', hF, z1, z2⟩ := Z_before (N := N) (sR := sR) (sL := sL) (sX := sX) (sE := sE) (sY := sY) (sF' := sF) (sN := sN) (sT := sT) (sP := sP) (sI := sI) (by omega) q1 q2 a1
      exact ⟨_, 0, 0, ⟨r, σ', z1, z2, rfl, rfl, rfl⟩, INV_q hk h' hF (by omega) (by omega)⟩
    · obtain ⟨r, σ', hF, z1, z2⟩ := Q_before (N := N) (sR := sR) (sL := sL) (sX := sX) (sY := sY) (sF := sF) (sT := sT) (by omega) r2 q1 r3 q2 a1
      exact ⟨_, 0, 0, ⟨r, σ', z1, z2, rfl, rfl, rfl⟩, INV_q hk h' hF (by omega) (by omega)⟩
  simp only [if_neg w8]
  exact ⟨_, 0, 0, ⟨rfl, rfl, rfl⟩, INV_q hk h' ⟨fun _ _ _ _ => rfl, fun _ _ => rfl⟩ (by omega) (by omega)⟩
end
