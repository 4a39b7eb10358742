/-! ===== READ: what a statement leaves ===== -/
def bsC (η : Int32 → AT → Int32 × Bool) (lo : AT → Bool) (tk : List Int32 → Bool) (σ0 : MS) (cur start sec : Nat) (o : OD) (ts : List AT) : MS :=
  if o.1 = 1 ∨ o.1 = 2 then sF σ0 16 (o.1 - 1)
  else if o.1 = 3 then dfn σ0 (nI (eqT η lo tk ts).2.1.p) 2 (eqT η lo tk ts).2.2.1
  else if o.1 = 4 then σ0 else if o.1 = 5 then σ0 else if o.1 = 6 then σ0
  else if o.1 = 7 then sA σ0 4 cur (-1 - (f1T η lo 0 10 ts).2.1)
  else if o.1 = 8 then σ0
  else if isJ (srO o ts).2.2.1 = true then jm σ0 cur (nI (plc start (LvR (srO o ts).2.2.1 (srO o ts).2.1) sec (kdO (srO o ts).2.2.1 (srO o ts).2.1))) 0
  else σ0
section
variable {N : Nat} {X : List Int32} {σ0 : MS} {Λ : List Lb} {ln cur start : Nat}
def PreR (X : List Int32) (Λ : List Lb) (σ0 : MS) (ln cur start sec : Nat) (o : OD) (ts : List AT) (σ : MS) : Prop :=
  if (stm (η0 X Λ σ0 start) (loR X Λ) (tkA X Λ) o ts).1 ≠ 0 then FS X σ0 (fl ln (stm (η0 X Λ σ0 start) (loR X Λ) (tkA X Λ) o ts).1) σ
  else ∃ Bs, GR X (bsC (η0 X Λ σ0 start) (loR X Λ) (tkA X Λ) σ0 cur start sec o ts) (stm (η0 X Λ σ0 start) (loR X Λ) (tkA X Λ) o ts).2.2 Bs σ ∧ Bs.length = ilens (stm (η0 X Λ σ0 start) (loR X Λ) (tkA X Λ) o ts).2.1
theorem CK_no {f : Nat} {P : MS → Prop} {σ : MS} (h17 : σ0.1 17 = 0) (h : CK X σ0 ln f P σ) : P σ := by
  rcases h.cases with ⟨c1, -, -⟩ | ⟨-, c2⟩
  · exact absurd (h17.symm.trans c1) (by decide)
  · exact c2
theorem n2 (h17 : σ0.1 17 = 0) : ¬ σ0.1 17 = 2 := fun z => absurd (h17.symm.trans z) (by decide)
/-- what a shape leaves, whatever its mark -/
def OutX (X : List Int32) (Λ : List Lb) (σ0 : MS) (ln cur start lev sec : Nat) (s : SR) (σ : MS) : Prop :=
  if s.1 ≠ 0 then (σ0.1 17 = 2 ∨ FS X σ0 (fl ln s.1) σ) else if isJ s.2.2.1 = true then OutK X Λ σ0 ln cur start lev sec [] s σ else if s.2.2.1 = 64 then OutA X Λ σ0 ln start [] s σ else OutS X Λ σ0 ln start s [] σ
theorem OutX_K {lev sec : Nat} {s : SR} {σ : MS} (h : OutK X Λ σ0 ln cur start lev sec [] s σ) (hj : s.1 = 0 → isJ s.2.2.1 = true) : OutX X Λ σ0 ln cur start lev sec s σ := by
  unfold OutX
  by_cases c : s.1 = 0
  · rw [if_neg (fun z => z c), if_pos (hj c)]; exact h
  · rw [if_pos c]
    unfold OutK OutJ at h
    rw [if_pos c] at h
    exact h
theorem OutX_S {lev sec : Nat} {s : SR} {σ : MS} (h : OutS X Λ σ0 ln start s [] σ) (hj : s.1 = 0 → isJ s.2.2.1 = false ∧ s.2.2.1 ≠ 64) : OutX X Λ σ0 ln cur start lev sec s σ := by
  unfold OutX
  by_cases c : s.1 = 0
  · rw [if_neg (fun z => z c), if_neg (by rw [(hj c).1]; decide), if_neg (hj c).2]; exact h
  · rw [if_pos c]
    unfold OutS at h
    rw [if_pos c] at h
    exact h
theorem OutX_A {lev sec : Nat} {s : SR} {σ : MS} (h : OutA X Λ σ0 ln start [] s σ) (hj : s.1 = 0 → s.2.2.1 = 64) : OutX X Λ σ0 ln cur start lev sec s σ := by
  unfold OutX
  by_cases c : s.1 = 0
  · rw [if_neg (fun z => z c), if_neg (by rw [hj c]; decide), if_pos (hj c)]; exact h
  · rw [if_pos c]
    unfold OutA at h
    rw [if_pos c] at h
    exact h
theorem ends_m {sh : List Int32} {x : Int32} (h : sh.getLastD 0 = x) (h0 : x ≠ 0) : sh ≠ [] := by
  intro z; subst z; exact h0 h.symm
/-- the last of BOut's ways, by the mark that comes of it -/
theorem BOut_X {o : OD} {ts : List AT} {σ : MS} {lev sec : Nat} (hx : oneX o.2.1 = true) (hr : o.1 = 0 ∨ o.1 = 9 ∨ o.1 = 10) (h : BOut X Λ σ0 ln cur start lev sec o ts σ) : OutX X Λ σ0 ln cur start lev sec (srO o ts) σ := by
  unfold BOut at h
  have n8 : ¬ (o.1 = 1 ∨ o.1 = 2) ∧ o.1 ≠ 3 ∧ o.1 ≠ 4 ∧ o.1 ≠ 5 ∧ o.1 ≠ 6 ∧ o.1 ≠ 7 ∧ o.1 ≠ 8 := by rcases hr with e | e | e <;> rw [e] <;> decide
  rw [if_neg n8.1, if_neg n8.2.1, if_neg n8.2.2.1, if_neg n8.2.2.2.1, if_neg n8.2.2.2.2.1, if_neg n8.2.2.2.2.2.1, if_neg n8.2.2.2.2.2.2] at h
  unfold srO
  by_cases c9 : o.1 = 9
  · rw [if_pos c9] at h ⊢
    by_cases cr : isReg ts = true
    · rw [if_pos cr] at h ⊢
      exact OutX_S h (fun _ => noJ (by decide))
    · rw [if_neg cr] at h ⊢
      refine OutX_K h (fun z => ?_)
      rw [mkLast [120] _ _ _ _ (by simp) (by decide) (by decide) z]
      decide
  rw [if_neg c9] at h ⊢
  by_cases c10 : o.1 = 10
  · rw [if_pos c10] at h ⊢
    refine OutX_S h (fun _ => ?_)
    split
    · exact noJ (by decide)
    · exact noJ (by decide)
  rw [if_neg c10] at h ⊢
  by_cases cJ : lastJ o.2.1 = true
  · rw [if_pos cJ] at h
    have cJ' := cJ
    unfold lastJ at cJ'
    simp only [decide_eq_true_eq] at cJ'
    refine OutX_K h (fun z => ?_)
    have h0 : o.2.1.getLastD 0 ≠ 0 ∧ ¬ (o.2.1.getLastD 0 = 44 ∨ o.2.1.getLastD 0 = 40 ∨ o.2.1.getLastD 0 = 41) ∧ isRM (o.2.1.getLastD 0) = false ∧ isJ (o.2.1.getLastD 0) = true := by
      rcases cJ' with e | e | e <;> rw [e] <;> decide
    rw [mkLast o.2.1 _ _ _ _ (ends_m rfl h0.1) h0.2.1 h0.2.2.1 z]
    exact h0.2.2.2
  rw [if_neg cJ] at h
  by_cases c64 : o.2.1.getLastD 0 = 64
  · rw [if_pos c64] at h
    refine OutX_A h (fun z => ?_)
    rw [mkLast o.2.1 _ _ _ _ (ends_m c64 (by decide)) (by rw [c64]; decide) (by rw [c64]; decide) z]
    exact c64
  · rw [if_neg c64] at h
    refine OutX_S h (fun _ => noJ ?_)
    unfold oneX at hx
    simp only [Bool.or_eq_true, decide_eq_true_eq] at hx
    rcases hx with (e | e) | e
    · exact absurd e cJ
    · exact absurd e c64
    · exact e
theorem aB_len (w off : Int32) : (aB w off).length = 8 := by
  unfold aB
  rw [List.length_append, wB_len, wB_len]
theorem wBsum (l : List (Int32 × Nat)) : (liB l).length = (l.map (fun x => x.2)).sum := by
  unfold liB
  induction l with
  | nil => rfl
  | cons x l ih => simp [List.flatMap_cons, wB_len, ih]
theorem nm_len (η : Int32 → AT → Int32 × Bool) (size : Nat) (Rs : List (List XSt)) : (nmB η size Rs).length = ilens (Rs.map (fun R => ((61 : Int32), (0 : Int32), size, R, ([] : List Int32)))) := by
  unfold nmB ilens
  induction Rs with
  | nil => rfl
  | cons x l ih => simp [List.flatMap_cons, wB_len] at ih ⊢; omega
theorem stB_len (z : Int32) (hz : z = 0 ∨ z = 1) (Ss : List (List Int32)) : (stB z Ss).length = ilens (Ss.map (fun s => ((4 : Int32), (0 : Int32), s.length + z.toNatClampNeg, ([] : List XSt), s))) := by
  unfold stB ilens
  induction Ss with
  | nil => rfl
  | cons x l ih =>
    rcases hz with e | e <;> subst e
    · simp [List.flatMap_cons] at ih ⊢; rw [ih]
    · simp [List.flatMap_cons] at ih ⊢; rw [ih]; omega
theorem R_pre {o : OD} {ts : List AT} {σ : MS} {lev sec kd0 : Nat} (h17 : σ0.1 17 = 0) (hp : Px σ0 cur start lev sec kd0) (hx : oneX o.2.1 = true) (hro : roleOk o.1 = true) (h5 : o.1 = 5 → o.2.2 = 0 ∨ o.2.2 = 1) (h : BOut X Λ σ0 ln cur start lev sec o ts σ) : PreR X Λ σ0 ln cur start sec o ts σ := by
  have etk : tkM X Λ σ0 = tkA X Λ := by
    funext nm
    unfold tkM
    rw [if_pos h17]
  have h0 := h
  unfold BOut at h
  unfold PreR stm bsC
  by_cases c1 : o.1 = 1 ∨ o.1 = 2
  · rw [if_pos c1] at h ⊢
    rw [if_neg (fun z => z rfl), if_pos c1]
    exact ⟨[], h, rfl⟩
  rw [if_neg c1] at h ⊢
  rw [if_neg c1]
  by_cases c3 : o.1 = 3
  · rw [if_pos c3] at h ⊢
    rw [if_pos c3]
    rw [etk] at h
    unfold OutE at h
    by_cases q : (eqT (η0 X Λ σ0 start) (loR X Λ) (tkA X Λ) ts).1 ≠ 0
    · rw [if_pos q] at h ⊢
      rcases h with h | h
      · exact absurd h17 h
      · exact h
    · rw [if_neg q] at h ⊢
      rw [if_pos h17] at h
      exact ⟨[], h, rfl⟩
  rw [if_neg c3] at h ⊢
  rw [if_neg c3]
  by_cases c4 : o.1 = 4
  · rw [if_pos c4] at h ⊢
    rw [if_pos c4]
    unfold OutN at h
    by_cases q : (nmT ts.length ts).1 ≠ 0
    · rw [if_pos q] at h ⊢
      rcases h with h | h
      · exact absurd h (n2 h17)
      · exact h
    · rw [if_neg q] at h ⊢
      exact ⟨_, CK_no h17 h, by rw [List.nil_append]; exact nm_len _ _ _⟩
  rw [if_neg c4] at h ⊢
  rw [if_neg c4]
  by_cases c5 : o.1 = 5
  · rw [if_pos c5] at h ⊢
    rw [if_pos c5]
    unfold OutQ at h
    by_cases q : (stT ts.length ts).1 ≠ 0
    · rw [if_pos q] at h ⊢; exact h
    · rw [if_neg q] at h ⊢
      exact ⟨_, h, by rw [List.nil_append]; exact stB_len _ (h5 c5) _⟩
  rw [if_neg c5] at h ⊢
  rw [if_neg c5]
  by_cases c6 : o.1 = 6
  · rw [if_pos c6] at h ⊢
    rw [if_pos c6]
    unfold OutP at h
    by_cases q : (f1T (η0 X Λ σ0 start) (loR X Λ) 0 32768 ts).1 ≠ 0
    · rw [if_pos q] at h ⊢
      rcases h with h | h
      · exact absurd h17 h
      · exact h
    · rw [if_neg q] at h ⊢
      obtain ⟨k, k1, k2, k3⟩ := h
      refine ⟨_, k3, ?_⟩
      rw [List.length_replicate]
      unfold ilens
      simp only [List.map_cons, List.map_nil, List.sum_cons, List.sum_nil, Nat.add_zero]
      rw [k2, nI_clamp (by omega)]
  rw [if_neg c6] at h ⊢
  rw [if_neg c6]
  by_cases c7 : o.1 = 7
  · rw [if_pos c7] at h ⊢
    rw [if_pos c7]
    unfold OutG at h
    by_cases q : (f1T (η0 X Λ σ0 start) (loR X Λ) 0 10 ts).1 ≠ 0
    · rw [if_pos q] at h ⊢
      rcases h with h | h
      · exact absurd h17 h
      · exact h
    · rw [if_neg q] at h ⊢
      exact ⟨[], h, rfl⟩
  rw [if_neg c7] at h ⊢
  rw [if_neg c7]
  by_cases c8 : o.1 = 8
  · rw [if_pos c8] at h ⊢
    rw [if_pos c8]
    unfold OutL at h
    by_cases q : (ldT (η0 X Λ σ0 start) (loR X Λ) ts).1 ≠ 0
    · rw [if_pos q] at h ⊢
      rcases h with h | h
      · exact absurd h17 h
      · exact h
    · rw [if_neg q] at h ⊢
      refine ⟨_, h, ?_⟩
      rw [List.nil_append, wBsum]
      unfold ilens
      rw [List.map_map]
      rfl
  rw [if_neg c8]
  rw [if_neg c8]
  have hr : o.1 = 0 ∨ o.1 = 9 ∨ o.1 = 10 := by
    unfold roleOk at hro
    simp only [List.mem_cons, List.not_mem_nil, or_false, decide_eq_true_eq] at hro
    rcases hro with e | e | e | e | e | e | e | e | e | e | e
    · exact Or.inl e
    · exact absurd (Or.inl e) c1
    · exact absurd (Or.inr e) c1
    · exact absurd e c3
    · exact absurd e c4
    · exact absurd e c5
    · exact absurd e c6
    · exact absurd e c7
    · exact absurd e c8
    · exact Or.inr (Or.inl e)
    · exact Or.inr (Or.inr e)
  have hX := BOut_X hx hr h0
  generalize srO o ts = s at hX
  unfold OutX at hX
  by_cases q : s.1 ≠ 0
  · rw [if_pos q] at hX ⊢
    rcases hX with h | h
    · exact absurd h (n2 h17)
    · exact h
  rw [if_neg q] at hX ⊢
  have hq : s.1 = 0 := Decidable.not_not.mp q
  have il : ilens (sI s) = (len0 s.2.2.1 s.2.1).toNatClampNeg := by
    unfold ilens sI
    simp
  rw [il]
  by_cases cJ : isJ s.2.2.1 = true
  · rw [if_pos cJ] at hX ⊢
    unfold OutK OutJ at hX
    rw [if_neg q] at hX
    obtain ⟨Bs, b1, b2', b3⟩ := CK_no h17 hX
    have eg : b2 (jgR (η0 X Λ σ0 start) σ0 s.2.2.1 (Lv σ0 lev s.2.2.1 s.2.1) s.2.2.2.1) = 0 := by
      unfold jgR jgr
      rw [decide_eq_false (fun z => absurd (h17.symm.trans z) (by decide))]
      rfl
    have ep : plv σ0 cur start sec s.2.2.1 s.2.1 = nI (plc start (LvR s.2.2.1 s.2.1) sec (kdO s.2.2.1 s.2.1)) := by
      unfold plv
      rw [if_pos h17]
    rw [eg, ep] at b1
    refine ⟨_, b1, ?_⟩
    rw [List.nil_append, b2']
    unfold Lv LvR
    rw [if_pos h17]
    have hl2 : len0 s.2.2.1 s.2.1 = 2 ∨ len0 s.2.2.1 s.2.1 = 4 := by
      unfold isJ at cJ
      simp only [decide_eq_true_eq] at cJ
      unfold len0
      rw [if_neg (by rcases cJ with e | e | e <;> rw [e] <;> decide)]
      split
      · exact Or.inl rfl
      · split
        · split
          · exact Or.inl rfl
          · exact Or.inr rfl
        · split
          · exact Or.inr rfl
          · exact Or.inl rfl
    rcases hl2 with e | e
    · rw [e]; rfl
    · rw [e]; rfl
  · rw [if_neg cJ] at hX ⊢
    by_cases c64 : s.2.2.1 = 64
    · rw [if_pos c64] at hX
      unfold OutA at hX
      rw [if_neg q] at hX
      refine ⟨_, CK_no h17 hX, ?_⟩
      rw [List.nil_append, aB_len, c64]
      rfl
    · rw [if_neg c64] at hX
      unfold OutS at hX
      rw [if_neg q] at hX
      obtain ⟨Bs, b1, b2', b3, -⟩ := CK_no h17 hX
      refine ⟨_, b1, ?_⟩
      rw [List.nil_append, ← b2', nI_clamp (by omega)]
end
