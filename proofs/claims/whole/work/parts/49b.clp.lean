abbrev LSt : Type := CS × CS × CS × CS × CS × CS × CS × CS × CS × CS × CS × MS
def LS0 (N : Nat) (a1 a2 a3 : Int32) (q q' : LSt) (dc ds : Nat) : Prop := match q with
  | (sG, sR, sL, sX, sE, sY, sF, sN, sT, sP, sI, σ) => ∃ (r : Int32) (u : CS) (σ' : MS), C_Asm_feed N (wdZ a1 a2) a3 sG sR sL sX sE sY sF sN sT sP sI = some ((r, u), (dc, ds)) ∧ M_feed N (wdZ a1 a2) a3 σ = some (r, σ') ∧ q' = (sG, sR, sL, u, sE, sY, sF, sN, sT, sP, sI, σ')
def LS1 (N : Nat) (a1 a2 a3 : Int32) (q q' : LSt) (dc ds : Nat) : Prop := match q with
  | (sG, sR, sL, sX, sE, sY, sF, sN, sT, sP, sI, σ) => ∃ (r : Int32) (u : CS) (σ' : MS), C_Asm_clear sG sR sL sX sE sY sF sN sT sP sI = some (r, u) ∧ M_clear σ = some (r, σ') ∧ q' = (sG, sR, sL, u, sE, sY, sF, sN, sT, sP, sI, σ') ∧ dc = 0 ∧ ds = 0
def LS2 (N : Nat) (a1 a2 a3 : Int32) (q q' : LSt) (dc ds : Nat) : Prop := match q with
  | (sG, sR, sL, sX, sE, sY, sF, sN, sT, sP, sI, σ) => ∃ (r : Int32) (u : CS × CS × CS × CS × CS × CS × CS × CS × CS) (σ' : MS), C_Asm_assemble N sG sR sL sX sE sY sF sN sT sP sI = some ((r, u), (dc, ds)) ∧ M_assemble N σ = some (r, σ') ∧ q' = (u.1, sR, u.2.1, sX, u.2.2.1, u.2.2.2.1, u.2.2.2.2.1, u.2.2.2.2.2.1, u.2.2.2.2.2.2.1, u.2.2.2.2.2.2.2.1, u.2.2.2.2.2.2.2.2, σ')
def LS3 (N : Nat) (a1 a2 a3 : Int32) (q q' : LSt) (dc ds : Nat) : Prop := match q with
  | (sG, sR, sL, sX, sE, sY, sF, sN, sT, sP, sI, σ) => ∃ σ' : MS, q' = (sG, sR, sL, sX, sE, sY, sF, sN, sT, sP, sI, σ') ∧ dc = 1 ∧ ds = 6 ∧ ((∃ r : Int32, C_Asm_size a1 sG sR sL sX sE sY sF sN sT sP sI = some r ∧ M_size N a1 σ = some (r, σ') ∧ M_thrown σ' = some 0) ∨ (∃ r2 : Int32, T_Asm_size a1 sG sR sL sX sE sY sF sN sT sP sI = some 1 ∧ M_size N a1 σ = some (r2, σ') ∧ M_thrown σ' = some 1) ∨ (∃ r2 : Int32, T_Asm_size a1 sG sR sL sX sE sY sF sN sT sP sI = some 2 ∧ M_size N a1 σ = some (r2, σ') ∧ M_thrown σ' = some 2))
def LS4 (N : Nat) (a1 a2 a3 : Int32) (q q' : LSt) (dc ds : Nat) : Prop := match q with
  | (sG, sR, sL, sX, sE, sY, sF, sN, sT, sP, sI, σ) => ∃ σ' : MS, q' = (sG, sR, sL, sX, sE, sY, sF, sN, sT, sP, sI, σ') ∧ dc = 1 ∧ ds = 6 ∧ ((∃ r : Int32, C_Asm_byteAt a1 sG sR sL sX sE sY sF sN sT sP sI = some r ∧ M_byteAt N a1 σ = some (r, σ') ∧ M_thrown σ' = some 0) ∨ (∃ r2 : Int32, T_Asm_byteAt a1 sG sR sL sX sE sY sF sN sT sP sI = some 3 ∧ M_byteAt N a1 σ = some (r2, σ') ∧ M_thrown σ' = some 1))
def LS5 (N : Nat) (a1 a2 a3 : Int32) (q q' : LSt) (dc ds : Nat) : Prop := match q with
  | (sG, sR, sL, sX, sE, sY, sF, sN, sT, sP, sI, σ) => ∃ σ' : MS, q' = (sG, sR, sL, sX, sE, sY, sF, sN, sT, sP, sI, σ') ∧ dc = 1 ∧ ds = 6 ∧ ((∃ r : Int32, C_Asm_address a1 sG sR sL sX sE sY sF sN sT sP sI = some r ∧ M_address N a1 σ = some (r, σ') ∧ M_thrown σ' = some 0) ∨ (∃ r2 : Int32, T_Asm_address a1 sG sR sL sX sE sY sF sN sT sP sI = some 3 ∧ M_address N a1 σ = some (r2, σ') ∧ M_thrown σ' = some 1))
def LS6 (N : Nat) (a1 a2 a3 : Int32) (q q' : LSt) (dc ds : Nat) : Prop := match q with
  | (sG, sR, sL, sX, sE, sY, sF, sN, sT, sP, sI, σ) => ∃ σ' : MS, q' = (sG, sR, sL, sX, sE, sY, sF, sN, sT, sP, sI, σ') ∧ dc = 1 ∧ ds = 6 ∧ ((∃ r : Int32, C_Asm_letter a1 a2 sG sR sL sX sE sY sF sN sT sP sI = some r ∧ M_letter N a1 a2 σ = some (r, σ') ∧ M_thrown σ' = some 0) ∨ (∃ r2 : Int32, T_Asm_letter a1 a2 sG sR sL sX sE sY sF sN sT sP sI = some 3 ∧ M_letter N a1 a2 σ = some (r2, σ') ∧ M_thrown σ' = some 1))
def LS7 (N : Nat) (a1 a2 a3 : Int32) (q q' : LSt) (dc ds : Nat) : Prop := match q with
  | (sG, sR, sL, sX, sE, sY, sF, sN, sT, sP, sI, σ) => ∃ (r : Int32) (σ' : MS), C_Asm_line a1 sG sR sL sX sE sY sF sN sT sP sI = some r ∧ M_line N a1 σ = some (r, σ') ∧ q' = (sG, sR, sL, sX, sE, sY, sF, sN, sT, sP, sI, σ') ∧ dc = 0 ∧ ds = 0
def LS8 (N : Nat) (a1 a2 a3 : Int32) (q q' : LSt) (dc ds : Nat) : Prop := match q with
  | (sG, sR, sL, sX, sE, sY, sF, sN, sT, sP, sI, σ) => ∃ (r : Int32) (σ' : MS), C_Asm_before N a1 sG sR sL sX sE sY sF sN sT sP sI = some r ∧ M_before N a1 σ = some (r, σ') ∧ q' = (sG, sR, sL, sX, sE, sY, sF, sN, sT, sP, sI, σ') ∧ dc = 0 ∧ ds = 0
/-- one call on both sides, with the same answer -/
def LStep (N : Nat) (w a1 a2 a3 : Int32) (q q' : LSt) (dc ds : Nat) : Prop :=
  if w = 0 then LS0 N a1 a2 a3 q q' dc ds else if w = 1 then LS1 N a1 a2 a3 q q' dc ds else if w = 2 then LS2 N a1 a2 a3 q q' dc ds else if w = 3 then LS3 N a1 a2 a3 q q' dc ds else if w = 4 then LS4 N a1 a2 a3 q q' dc ds else if w = 5 then LS5 N a1 a2 a3 q q' dc ds else if w = 6 then LS6 N a1 a2 a3 q q' dc ds else if w = 7 then LS7 N a1 a2 a3 q q' dc ds else if w = 8 then LS8 N a1 a2 a3 q q' dc ds else (q' = q ∧ dc = 0 ∧ ds = 0)
abbrev lwQ (dA : Nat → ClassId) (ao : Nat) (f : Nat → Int64) (h : Nat → Nat) (o b i : Nat → Nat) (q : LSt) : List va_W := lwW dA ao f h q.2.2.2.2.2.2.2.2.2.2.2 o b i q.1 q.2.1 q.2.2.1 q.2.2.2.1 q.2.2.2.2.1 q.2.2.2.2.2.1 q.2.2.2.2.2.2.1 q.2.2.2.2.2.2.2.1 q.2.2.2.2.2.2.2.2.1 q.2.2.2.2.2.2.2.2.2.1 q.2.2.2.2.2.2.2.2.2.2.1
theorem lw_cmp {L k : Nat} (hL : L ≤ 2048) (hk : k ≤ 512) : nI L - 4 < nI (4 * k) ↔ ¬ 4 * k + 4 ≤ L := by
  by_cases h : 4 ≤ L
  · rw [show (4 : Int32) = nI 4 from rfl, pk_sub h, nI_ltI (by omega) (by omega)]
    omega
  · have h0 : ¬ nI (4 * k) < 0 := nI_pos (by omega)
    have h1 : nI L - 4 < 0 := by
      rcases (show L = 0 ∨ L = 1 ∨ L = 2 ∨ L = 3 by omega) with rfl | rfl | rfl | rfl <;> decide
    exact ⟨fun _ => by omega, fun _ => Int32.lt_of_lt_of_le h1 (Int32.not_lt.mp h0)⟩
theorem lw_in {L k j : Nat} (h : k + j < L) (hL : L ≤ 2048) : vp_in (nI k + nI j) L := by
  rw [nI_add]
  rintro (h1 | h1)
  · exact nI_pos (by omega) h1
  · rw [nI_clamp (by omega)] at h1
    omega
theorem lw_sw {w : Int32} (h : ¬ (w.toInt < 0 ∨ 8 < w.toInt)) : w = 0 ∨ w = 1 ∨ w = 2 ∨ w = 3 ∨ w = 4 ∨ w = 5 ∨ w = 6 ∨ w = 7 ∨ w = 8 := by
  have h1 : w.toInt = 0 ∨ w.toInt = 1 ∨ w.toInt = 2 ∨ w.toInt = 3 ∨ w.toInt = 4 ∨ w.toInt = 5 ∨ w.toInt = 6 ∨ w.toInt = 7 ∨ w.toInt = 8 := by omega
  rcases h1 with h | h | h | h | h | h | h | h | h
  · exact Or.inl (Int32.toInt_inj.mp h)
  · exact Or.inr (Or.inl (Int32.toInt_inj.mp h))
  · exact Or.inr (Or.inr (Or.inl (Int32.toInt_inj.mp h)))
  · exact Or.inr (Or.inr (Or.inr (Or.inl (Int32.toInt_inj.mp h))))
  · exact Or.inr (Or.inr (Or.inr (Or.inr (Or.inl (Int32.toInt_inj.mp h)))))
  · exact Or.inr (Or.inr (Or.inr (Or.inr (Or.inr (Or.inl (Int32.toInt_inj.mp h))))))
  · exact Or.inr (Or.inr (Or.inr (Or.inr (Or.inr (Or.inr (Or.inl (Int32.toInt_inj.mp h)))))))
  · exact Or.inr (Or.inr (Or.inr (Or.inr (Or.inr (Or.inr (Or.inr (Or.inl (Int32.toInt_inj.mp h))))))))
  · exact Or.inr (Or.inr (Or.inr (Or.inr (Or.inr (Or.inr (Or.inr (Or.inr (Int32.toInt_inj.mp h))))))))
section
variable {p : Program} {l : Launch} {e : Env} {s : State} {m : MethodId} {below : List Frame} {meth : Method} {c : Code} {D : va_G} {dA : Nat → ClassId} {o h : Nat → Nat} {A : Nat → Prop} {bs L ao : Nat} {xs : Nat → Int32}
set_option maxHeartbeats 4000000 in
theorem law_turn (htr : l.stackTraces = false) {args : Array Value} {b i : Nat → Nat} {f : Nat → Int64} {H : Heap} {locs : List Loc} {cells slots : Nat} {Q : State → Prop} {ls : Array Slot} {x4 : Int32} (C : CxC "LineAssemblerLaw" p s m args meth c code 7 ret D dA (zz o) A) (hX : va_X bs L xs s s.heap) (hbl : bs < s.heap.size) (hbA : ¬ A bs) (hi1 : vp_in (x4 + 1) L) (hi2 : vp_in (x4 + 2) L) (hi3 : vp_in (x4 + 3) L) (N : Nat) {w : Int32} {q q' : LSt} {dc ds : Nat} (hq : LStep N w (xs (x4 + 1).toNatClampNeg) (xs (x4 + 2).toNatClampNeg) (xs (x4 + 3).toNatClampNeg) q q' dc ds) (hc : cells + dc ≤ 601024) (hs : slots + ds ≤ 7293034) (hW : WdC D A s (lwQ dA ao f h o b i q) H locs) (hl : lv_has ls 7 [(0, .ref bs), (1, .ref (o 144)), (2, .ref (h 0)), (3, .ref ao), (4, .int x4)]) (kk : ∀ (b' i' : Nat → Nat) (f' : Nat → Int64) (H1 : Heap) (locs1 : List Loc) (ls1 : Array Slot), lv_has ls1 7 [(0, .ref bs), (1, .ref (o 144)), (2, .ref (h 0)), (3, .ref ao), (4, .int x4)] → WdC D A s (lwQ dA ao f' h o b' i' q') H1 locs1 → W p l e room_1 s m args below meth c H1 locs1 (cells + dc) (slots + ds) Q (F0 m 469 ls1 [])) : W p l e room_1 s m args below meth c H locs cells slots Q (F0 m 39 ls [.int w]) := by
  have hx := C.1.1
  have hb := C.1.2.1
  by_cases hw : w.toInt < 0 ∨ 8 < w.toInt
  · refine lv_tableOut (pc := 39) (tgt := 469) hx hb dW_39 hw (by decide) ?_
    have hn : ∀ k : Int32, 0 ≤ k.toInt → k.toInt ≤ 8 → ¬ w = k := fun k h1 h2 e => by subst e; omega
    unfold LStep at hq
    rw [if_neg (hn 0 (by decide) (by decide)), if_neg (hn 1 (by decide) (by decide)), if_neg (hn 2 (by decide) (by decide)), if_neg (hn 3 (by decide) (by decide)), if_neg (hn 4 (by decide) (by decide)), if_neg (hn 5 (by decide) (by decide)), if_neg (hn 6 (by decide) (by decide)), if_neg (hn 7 (by decide) (by decide)), if_neg (hn 8 (by decide) (by decide))] at hq
    obtain ⟨rfl, rfl, rfl⟩ := hq
    exact kk b i f H locs ls hl hW
  · obtain ⟨sG, sR, sL, sX, sE, sY, sF, sN, sT, sP, sI, σ⟩ := q
    rcases lw_sw hw with rfl | rfl | rfl | rfl | rfl | rfl | rfl | rfl | rfl
    · refine lv_tableIn (pc := 39) (off := 49) (tgt := 88) hx hb dW_39 (by decide) (by decide) (by decide) (by decide) ?_
      have hq : LS0 N (xs (x4 + 1).toNatClampNeg) (xs (x4 + 2).toNatClampNeg) (xs (x4 + 3).toNatClampNeg) (sG, sR, sL, sX, sE, sY, sF, sN, sT, sP, sI, σ) q' dc ds := by
        unfold LStep at hq
        rw [if_pos rfl] at hq
        exact hq
      obtain ⟨r, u, σ2, h1, h2, rfl⟩ := hq
      exact lawW_0 C hX hbl hbA hi1 hi2 hi3 N h1 h2 hc hs hW hl kk
    · refine lv_tableIn (pc := 39) (off := 118) (tgt := 157) hx hb dW_39 (by decide) (by decide) (by decide) (by decide) ?_
      have hq : LS1 N (xs (x4 + 1).toNatClampNeg) (xs (x4 + 2).toNatClampNeg) (xs (x4 + 3).toNatClampNeg) (sG, sR, sL, sX, sE, sY, sF, sN, sT, sP, sI, σ) q' dc ds := by
        unfold LStep at hq
        rw [if_neg (show ¬ ((1 : Int32) = 0) by decide), if_pos rfl] at hq
        exact hq
      obtain ⟨r, u, σ2, h1, h2, rfl, rfl, rfl⟩ := hq
      exact lawW_1 C hX hbl hbA hi1 hi2 hi3 N h1 h2 hc hs hW hl kk
    · refine lv_tableIn (pc := 39) (off := 131) (tgt := 170) hx hb dW_39 (by decide) (by decide) (by decide) (by decide) ?_
      have hq : LS2 N (xs (x4 + 1).toNatClampNeg) (xs (x4 + 2).toNatClampNeg) (xs (x4 + 3).toNatClampNeg) (sG, sR, sL, sX, sE, sY, sF, sN, sT, sP, sI, σ) q' dc ds := by
        unfold LStep at hq
        rw [if_neg (show ¬ ((2 : Int32) = 0) by decide), if_neg (show ¬ ((2 : Int32) = 1) by decide), if_pos rfl] at hq
        exact hq
      obtain ⟨r, u, σ2, h1, h2, rfl⟩ := hq
      exact lawW_2 C hX hbl hbA hi1 hi2 hi3 N h1 h2 hc hs hW hl kk
    · refine lv_tableIn (pc := 39) (off := 144) (tgt := 183) hx hb dW_39 (by decide) (by decide) (by decide) (by decide) ?_
      have hq : LS3 N (xs (x4 + 1).toNatClampNeg) (xs (x4 + 2).toNatClampNeg) (xs (x4 + 3).toNatClampNeg) (sG, sR, sL, sX, sE, sY, sF, sN, sT, sP, sI, σ) q' dc ds := by
        unfold LStep at hq
        rw [if_neg (show ¬ ((3 : Int32) = 0) by decide), if_neg (show ¬ ((3 : Int32) = 1) by decide), if_neg (show ¬ ((3 : Int32) = 2) by decide), if_pos rfl] at hq
        exact hq
      obtain ⟨σ2, e1, e2, e3, hz⟩ := hq
      subst e1; subst e2; subst e3
      rcases hz with hz | hz | hz
      · obtain ⟨r, h1, h2, h3⟩ := hz
        exact lawW_3r C hX hbl hbA hi1 hi2 hi3 N h1 h2 h3 hc hs hW hl kk
      · obtain ⟨r, h1, h2, h3⟩ := hz
        exact lawW_3t1 C hX hbl hbA hi1 hi2 hi3 N htr h1 h2 h3 hc hs hW hl kk
      · obtain ⟨r, h1, h2, h3⟩ := hz
        exact lawW_3t2 C hX hbl hbA hi1 hi2 hi3 N htr h1 h2 h3 hc hs hW hl kk
    · refine lv_tableIn (pc := 39) (off := 200) (tgt := 239) hx hb dW_39 (by decide) (by decide) (by decide) (by decide) ?_
      have hq : LS4 N (xs (x4 + 1).toNatClampNeg) (xs (x4 + 2).toNatClampNeg) (xs (x4 + 3).toNatClampNeg) (sG, sR, sL, sX, sE, sY, sF, sN, sT, sP, sI, σ) q' dc ds := by
        unfold LStep at hq
        rw [if_neg (show ¬ ((4 : Int32) = 0) by decide), if_neg (show ¬ ((4 : Int32) = 1) by decide), if_neg (show ¬ ((4 : Int32) = 2) by decide), if_neg (show ¬ ((4 : Int32) = 3) by decide), if_pos rfl] at hq
        exact hq
      obtain ⟨σ2, e1, e2, e3, hz⟩ := hq
      subst e1; subst e2; subst e3
      rcases hz with hz | hz
      · obtain ⟨r, h1, h2, h3⟩ := hz
        exact lawW_4r C hX hbl hbA hi1 hi2 hi3 N h1 h2 h3 hc hs hW hl kk
      · obtain ⟨r, h1, h2, h3⟩ := hz
        exact lawW_4t3 C hX hbl hbA hi1 hi2 hi3 N htr h1 h2 h3 hc hs hW hl kk
    · refine lv_tableIn (pc := 39) (off := 256) (tgt := 295) hx hb dW_39 (by decide) (by decide) (by decide) (by decide) ?_
      have hq : LS5 N (xs (x4 + 1).toNatClampNeg) (xs (x4 + 2).toNatClampNeg) (xs (x4 + 3).toNatClampNeg) (sG, sR, sL, sX, sE, sY, sF, sN, sT, sP, sI, σ) q' dc ds := by
        unfold LStep at hq
        rw [if_neg (show ¬ ((5 : Int32) = 0) by decide), if_neg (show ¬ ((5 : Int32) = 1) by decide), if_neg (show ¬ ((5 : Int32) = 2) by decide), if_neg (show ¬ ((5 : Int32) = 3) by decide), if_neg (show ¬ ((5 : Int32) = 4) by decide), if_pos rfl] at hq
        exact hq
      obtain ⟨σ2, e1, e2, e3, hz⟩ := hq
      subst e1; subst e2; subst e3
      rcases hz with hz | hz
      · obtain ⟨r, h1, h2, h3⟩ := hz
        exact lawW_5r C hX hbl hbA hi1 hi2 hi3 N h1 h2 h3 hc hs hW hl kk
      · obtain ⟨r, h1, h2, h3⟩ := hz
        exact lawW_5t3 C hX hbl hbA hi1 hi2 hi3 N htr h1 h2 h3 hc hs hW hl kk
    · refine lv_tableIn (pc := 39) (off := 312) (tgt := 351) hx hb dW_39 (by decide) (by decide) (by decide) (by decide) ?_
      have hq : LS6 N (xs (x4 + 1).toNatClampNeg) (xs (x4 + 2).toNatClampNeg) (xs (x4 + 3).toNatClampNeg) (sG, sR, sL, sX, sE, sY, sF, sN, sT, sP, sI, σ) q' dc ds := by
        unfold LStep at hq
        rw [if_neg (show ¬ ((6 : Int32) = 0) by decide), if_neg (show ¬ ((6 : Int32) = 1) by decide), if_neg (show ¬ ((6 : Int32) = 2) by decide), if_neg (show ¬ ((6 : Int32) = 3) by decide), if_neg (show ¬ ((6 : Int32) = 4) by decide), if_neg (show ¬ ((6 : Int32) = 5) by decide), if_pos rfl] at hq
        exact hq
      obtain ⟨σ2, e1, e2, e3, hz⟩ := hq
      subst e1; subst e2; subst e3
      rcases hz with hz | hz
      · obtain ⟨r, h1, h2, h3⟩ := hz
        exact lawW_6r C hX hbl hbA hi1 hi2 hi3 N h1 h2 h3 hc hs hW hl kk
      · obtain ⟨r, h1, h2, h3⟩ := hz
        exact lawW_6t3 C hX hbl hbA hi1 hi2 hi3 N htr h1 h2 h3 hc hs hW hl kk
    · refine lv_tableIn (pc := 39) (off := 380) (tgt := 419) hx hb dW_39 (by decide) (by decide) (by decide) (by decide) ?_
      have hq : LS7 N (xs (x4 + 1).toNatClampNeg) (xs (x4 + 2).toNatClampNeg) (xs (x4 + 3).toNatClampNeg) (sG, sR, sL, sX, sE, sY, sF, sN, sT, sP, sI, σ) q' dc ds := by
        unfold LStep at hq
        rw [if_neg (show ¬ ((7 : Int32) = 0) by decide), if_neg (show ¬ ((7 : Int32) = 1) by decide), if_neg (show ¬ ((7 : Int32) = 2) by decide), if_neg (show ¬ ((7 : Int32) = 3) by decide), if_neg (show ¬ ((7 : Int32) = 4) by decide), if_neg (show ¬ ((7 : Int32) = 5) by decide), if_neg (show ¬ ((7 : Int32) = 6) by decide), if_pos rfl] at hq
        exact hq
      obtain ⟨r, σ2, h1, h2, rfl, rfl, rfl⟩ := hq
      exact lawW_7 C hX hbl hbA hi1 hi2 hi3 N h1 h2 hc hs hW hl kk
    · refine lv_tableIn (pc := 39) (off := 405) (tgt := 444) hx hb dW_39 (by decide) (by decide) (by decide) (by decide) ?_
      have hq : LS8 N (xs (x4 + 1).toNatClampNeg) (xs (x4 + 2).toNatClampNeg) (xs (x4 + 3).toNatClampNeg) (sG, sR, sL, sX, sE, sY, sF, sN, sT, sP, sI, σ) q' dc ds := by
        unfold LStep at hq
        rw [if_neg (show ¬ ((8 : Int32) = 0) by decide), if_neg (show ¬ ((8 : Int32) = 1) by decide), if_neg (show ¬ ((8 : Int32) = 2) by decide), if_neg (show ¬ ((8 : Int32) = 3) by decide), if_neg (show ¬ ((8 : Int32) = 4) by decide), if_neg (show ¬ ((8 : Int32) = 5) by decide), if_neg (show ¬ ((8 : Int32) = 6) by decide), if_neg (show ¬ ((8 : Int32) = 7) by decide), if_pos rfl] at hq
        exact hq
      obtain ⟨r, σ2, h1, h2, rfl, rfl, rfl⟩ := hq
      exact lawW_8 C hX hbl hbA hi1 hi2 hi3 N h1 h2 hc hs hW hl kk
set_option maxHeartbeats 4000000 in
theorem law_loop (htr : l.stackTraces = false) (N : Nat) (INV : Nat → LSt → Nat → Nat → Prop) (hst : ∀ (k : Nat) (q : LSt) (cc d : Nat) (a0 a1 a2 a3 : Int32), k < 512 → INV k q cc d → ∃ (q' : LSt) (dc ds : Nat), LStep N (a0 &&& 15) a1 a2 a3 q q' dc ds ∧ INV (k + 1) q' (cc + dc) (d + ds)) (hrm : ∀ (k : Nat) (q : LSt) (cc d : Nat), INV k q cc d → cc ≤ 601024 ∧ d ≤ 7293034)
    (C : CxC "LineAssemblerLaw" p s m #[.ref bs] meth c code 7 ret D dA (zz o) A) (hAs : ∀ q, A q → s.heap.size ≤ q) (hX : va_X bs L xs s s.heap) (hbl : bs < s.heap.size) (hL : L ≤ 2048) : ∀ (n k : Nat), k + n = 512 → ∀ (q : LSt) (cells slots : Nat), INV k q cells slots → ∀ (b i : Nat → Nat) (f : Nat → Int64) (H : Heap) (locs : List Loc) (ls : Array Slot), WdC D A s (lwQ dA ao f h o b i q) H locs → lv_has ls 7 [(0, .ref bs), (1, .ref (o 144)), (2, .ref (h 0)), (3, .ref ao), (4, .int (nI (4 * k)))] → W p l e room_1 s m #[.ref bs] below meth c H locs cells slots (lw_Z below #[.ref bs] s) (F0 m 23 ls []) := by
  have hx := C.1.1
  have hb := C.1.2.1
  have hrt := C.1.2.2.2.1
  have hlk := C.1.2.2.2.2.2.2
  have hbA : ¬ A bs := fun z => Nat.not_lt.mpr (hAs bs z) hbl
  intro n
  induction n with
  | zero =>
    intro k hk q cells slots hI b i f H locs ls hW hl
    refine lv_iload (pc := 23) hx hb dW_23 (lv_at hl 4 rfl) ?_
    refine lv_aload_n (pc := 25) hx hb dW_25 rfl (lv_at hl 0 rfl) ?_
    refine va_slen (pc := 26) hx hb hX hbl hbA hW.2.2 dW_26 ?_
    refine lv_iconst (pc := 27) (v := 4) hx hb dW_27 (by decide) ?_
    refine lv_isub (pc := 28) hx hb dW_28 ?_
    refine lv_icmp_gt (pc := 29) (tgt := 475) hx hb dW_29 (by decide) (fun hc => ?_) (fun hc => ?_)
    · refine va_forget (fun z hz => hAs _ (hW.2.2.2.2 z hz)) ?_
      refine W.widen (k := 601024) (n := 7293034) (hrm k q cells slots hI).1 (hrm k q cells slots hI).2 ?_
      refine lv_iconst (pc := 475) (v := 1) hx hb dW_475 (by decide) ?_
      exact lw_ret hx hb hrt hlk dW_476
    · exact absurd ((lw_cmp hL (by omega)).mpr (by omega)) hc
  | succ n ih =>
    intro k hk q cells slots hI b i f H locs ls hW hl
    refine lv_iload (pc := 23) hx hb dW_23 (lv_at hl 4 rfl) ?_
    refine lv_aload_n (pc := 25) hx hb dW_25 rfl (lv_at hl 0 rfl) ?_
    refine va_slen (pc := 26) hx hb hX hbl hbA hW.2.2 dW_26 ?_
    refine lv_iconst (pc := 27) (v := 4) hx hb dW_27 (by decide) ?_
    refine lv_isub (pc := 28) hx hb dW_28 ?_
    refine lv_icmp_gt (pc := 29) (tgt := 475) hx hb dW_29 (by decide) (fun hc => ?_) (fun hc => ?_)
    · refine va_forget (fun z hz => hAs _ (hW.2.2.2.2 z hz)) ?_
      refine W.widen (k := 601024) (n := 7293034) (hrm k q cells slots hI).1 (hrm k q cells slots hI).2 ?_
      refine lv_iconst (pc := 475) (v := 1) hx hb dW_475 (by decide) ?_
      exact lw_ret hx hb hrt hlk dW_476
    · have hk4 : 4 * k + 4 ≤ L := Decidable.not_not.mp (fun z => hc ((lw_cmp hL (by omega)).mpr z))
      refine lv_aload_n (pc := 32) hx hb dW_32 rfl (lv_at hl 0 rfl) ?_
      refine lv_iload (pc := 33) hx hb dW_33 (lv_at hl 4 rfl) ?_
      refine va_sld (pc := 35) hx hb hX hbl hbA hW.2.2 (by have h9 := lw_in (L := L) (k := 4 * k) (j := 0) (by omega) hL; rwa [nI_add, Nat.add_zero] at h9) dW_35 ?_
      refine lv_bipush (pc := 36) (v := 15) hx hb dW_36 (by decide) ?_
      refine lv_iand (pc := 38) hx hb dW_38 ?_
      obtain ⟨q', dc, ds, hS, hI'⟩ := hst k q cells slots (xs (nI (4 * k)).toNatClampNeg) (xs (nI (4 * k) + 1).toNatClampNeg) (xs (nI (4 * k) + 2).toNatClampNeg) (xs (nI (4 * k) + 3).toNatClampNeg) (by omega) hI
      have hr := hrm (k + 1) q' _ _ hI'
      refine law_turn htr C hX hbl hbA (lw_in (j := 1) (by omega) hL) (lw_in (j := 2) (by omega) hL) (lw_in (j := 3) (by omega) hL) N hS hr.1 hr.2 hW hl (fun b' i' f' H1 locs1 ls1 hl1 hW1 => ?_)
      refine lv_iinc (pc := 469) (nL := 7) (k := 4) (v := nI (4 * (k + 1))) (lv' := [(4, .int (nI (4 * (k + 1)))), (0, .ref bs), (1, .ref (o 144)), (2, .ref (h 0)), (3, .ref ao)]) hx hb dW_469 hl1 rfl (show nI (4 * k) + nI 4 = nI (4 * (k + 1)) by rw [nI_add]; congr 1) (by decide) rfl (fun ls2 hl2 => ?_)
      refine lv_goto (pc := 472) (tgt := 23) hx hb dW_472 (by decide) ?_
      exact ih (k + 1) (by omega) q' _ _ hI' b' i' f' H1 locs1 ls2 hW1 (lv_sub hl2 [1, 2, 3, 4, 0] rfl)
end
