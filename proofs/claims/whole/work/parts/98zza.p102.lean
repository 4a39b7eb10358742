/-! ===== the class's assemble(), whole ===== -/
/-- tables of the names that stay, whatever names a text has -/
def TbK (ns0 : List (List Int32)) (op re od : List Int32) : Prop := ∀ ms, (∀ nm ∈ ms, ∀ x ∈ nm, isPl x = true) → (ns0 ++ ms).Nodup → (ns0 ++ ms).length ≤ 140000 → Tbl (ns0 ++ ms) op re od
abbrev PT (sE sY sF sN sT sP sI : CS) (x y : Nat) : Nat × Nat := ap sE sF sP sI (2 * capN sN + 6 * sT.2.2 0 + 2 * sY.2.2 0 + x) (capN sN + 3 * sT.2.2 0 + sY.2.2 0 + y)
theorem nE_cnt {ns : List (List Int32)} {Y : List Int32} : ∀ {ts : List AT} {L : List (Int32 × Int32 × Int32)}, All2 (TR ns Y) ts L → L.countP (fun t => decide (t.1 = 0)) = nE ts
  | [], [], _ => rfl
  | a :: ts, t :: L, h => by
    rw [nE_cons, List.countP_cons, nE_cnt h.2, h.1.k]
    by_cases hz : a.k = 0
    · rw [if_pos hz, if_pos (decide_eq_true hz)]; omega
    · rw [if_neg hz, if_neg (by simpa using hz)]; omega
  | [], _ :: _, h => h.elim
  | _ :: _, [], h => h.elim
/-- the class between calls -/
def CNm (ns0 : List (List Int32)) (op re od : List Int32) (sN : CS) : Prop := KN ns0 sN ∧ ∃ ms so va, NamL sN (ns0 ++ ms) [] so va op re od
def CTk (sT : CS) : Prop := ∃ L c, TokL sT L c
section
variable {N : Nat} {X : List Int32} {ns0 : List (List Int32)} {op re od : List Int32} {sG sR sL sX sP sI sE sY sN sT sF : CS} {x y : Nat}
def AsQ (X : List Int32) (ns0 : List (List Int32)) (op re od : List Int32) (sG : CS) (x y : Nat) (v : Int32) (u : CS × CS × CS × CS × CS × CS × CS × CS × CS) (c : Nat × Nat) : Prop :=
  c = PT u.2.2.1 u.2.2.2.1 u.2.2.2.2.1 u.2.2.2.2.2.1 u.2.2.2.2.2.2.1 u.2.2.2.2.2.2.2.1 u.2.2.2.2.2.2.2.2 x y ∧ v = nI (ansX X) ∧ u.1 = cF sG 0 (b2 (decide (ansX X = 0))) ∧ (∃ Y, RowL u.2.2.2.1 Y) ∧ CNm ns0 op re od u.2.2.2.2.2.1 ∧ CTk u.2.2.2.2.2.2.1 ∧ CVl u.2.2.1 u.2.2.2.2.1 u.2.2.2.2.2.2.2.1 u.2.2.2.2.2.2.2.2 ∧ (ansX X = 0 → ∃ ns Y K V so va, LdC X ns Y K V so va (stX X) u.2.2.1 u.2.2.2.2.2.1 u.2.2.2.2.2.2.2.1 u.2.2.2.2.2.2.2.2 op re od)
theorem C_asm (hN : 150000 < N) (hX : X.length ≤ 4096) (hV : ∀ c ∈ X, okT c) (hsX : RowL sX X) (hK0 : TbK ns0 op re od) (hl0 : ns0.length < 50000) (hf0 : ns0.flatten.length < 50000) {Y0 : List Int32} (hY : RowL sY Y0) (hNm : CNm ns0 op re od sN) (hT : CTk sT) (hC : CVl sE sF sP sI) : RC (PT sE sY sF sN sT sP sI x y) (C_Asm_assemble N sG sR sL sX sE sY sF sN sT sP sI) (AsQ X ns0 op re od sG x y) := by
  obtain ⟨hKN, ms0, so0, va0, hNL⟩ := hNm
  obtain ⟨L0, c0, hTL⟩ := hT
  obtain ⟨⟨K0, V0, S0, Z0, hF⟩, ⟨lb0', hlb⟩, h20, hLo, ⟨i0, hi0⟩, ⟨i1, hi1⟩, hc0, hc1⟩ := hC
  unfold C_Asm_assemble
  refine RC_bnd ?_
  obtain ⟨sN1, n1, n2, n3⟩ := C_forget hN hNL hKN (by omega)
  refine RC_cl n1 ?_
  have hcapN := nq_cap n3
  have hKN1 : KN ns0 sN1 := hKN.nq (fun j a b => nq_num n3 j a b)
  -- the program
  have ePT : PT sE sY sF sN sT sP sI x y = tp sF sP sI (2 * sE.2.2 0 + 2 * sE.2.2 1 + (2 * capN sN1 + 6 * sT.2.2 0 + 2 * sY.2.2 0 + x)) (sE.2.2 0 + sE.2.2 1 + (capN sN1 + 3 * sT.2.2 0 + sY.2.2 0 + y)) := by rw [hcapN]
  rw [ePT]
  refine RC_then (C_empty (by omega) hlb h20 hLo) (fun v u c hu => ?_)
  obtain ⟨rfl, g1, g2, g3, g4, g5, g6, g7, g8⟩ := hu
  obtain ⟨uP, uI⟩ := u
  simp only [] at g1 g2 g3 g4 g5 g6 g7 g8 ⊢
  obtain ⟨sF1, f1, f2, f3⟩ := C_fempty (sN := sN1) (sT := sT) (sP := uP) (sI := uI) hF
  refine RC_cl f1 ?_
  -- the lexer
  obtain ⟨sT0, t1, sY0, y1, y2, t2, hlex⟩ := C_Lex_readAll_eq (N := N) (sL := sL) hsX hV hY n2 hTL hX (by omega) (by omega) (by omega)
  obtain ⟨sL', sY', sN', sT', Z, ms, so', va', L', c', dc, ds, x1, x2, x3, x4, x5, x6, x7, x8, x9, x10, x11, x12, x13⟩ := hlex
  rw [List.nil_append] at x2 x8
  have hc0 : sT.2.2 0 = c0 := hTL.c0
  have hc'0 : sT'.2.2 0 = c' := x8.c0
  have hsY0 : sY0.2.2 0 = sY.2.2 0 := by rw [y2]
  have ecap : capF sF = capF sF1 := f3.symm
  have hrd : RC (tp sF uP uI (2 * sE.2.2 0 + 2 * sE.2.2 1 + (2 * capN sN1 + 6 * sT.2.2 0 + 2 * sY.2.2 0 + x)) (sE.2.2 0 + sE.2.2 1 + (capN sN1 + 3 * sT.2.2 0 + sY.2.2 0 + y))) (C_Lex_readAll N sL sX sY sN1 sT) (fun v w c => w = (sL', sY', sN', sT') ∧ c = tp sF1 uP uI (2 * sE.2.2 0 + 2 * sE.2.2 1 + (2 * capN sN' + 6 * sT'.2.2 0 + 2 * sY'.2.2 0 + x)) (sE.2.2 0 + sE.2.2 1 + (capN sN' + 3 * sT'.2.2 0 + sY'.2.2 0 + y))) := by
    refine ⟨0, (sL', sY', sN', sT'), dc, ds, _, x1, ⟨?_, ?_⟩, rfl, rfl⟩
    · show ds + (2 * capF sF + 2 * uP.2.2 0 + (9 * uI.2.2 0 + 4 * uI.2.2 1) + _) ≤ 2 * capF sF1 + 2 * uP.2.2 0 + (9 * uI.2.2 0 + 4 * uI.2.2 1) + _
      rw [hc0, hc'0, ecap]
      rw [hsY0] at x12
      omega
    · show 64 * dc + (capF sF + uP.2.2 0 + 64 * (uI.2.2 0 + uI.2.2 1) + _) ≤ capF sF1 + uP.2.2 0 + 64 * (uI.2.2 0 + uI.2.2 1) + _
      rw [hc0, hc'0, ecap]
      rw [hsY0] at x13
      omega
  refine RC_then hrd (fun v w c hw => ?_)
  obtain ⟨rfl, rfl⟩ := hw
  simp only []
  -- the lines
  have hKN' : KN ns0 sN' := hKN1.nq (fun j a b => x11 j a b)
  have hNS : NmS sN' (ns0 ++ ms) (List.replicate ns0.length 0 ++ so') (va0.take ns0.length ++ va') op re od := hKN'.nms x3
  have hTb : Tbl (ns0 ++ ms) op re od := hK0 ms x6.2 x3.nodup x3.small.1
  have hTP : TPos (ns0 ++ ms) Z sT' (lexS X 0) := ⟨L', c', lexS X 0, 0, x8, by rw [x10, t2]; rfl, Nat.zero_le _, x9, rfl⟩
  have hlen := lexS_len X 0
  have hnEl : nE (lexS X 0) ≤ (lexS X 0).length := by unfold nE; exact List.length_filter_le _ _
  have hso : ∀ i, (List.replicate ns0.length 0 ++ so').getD i (0 : Int32) = 0 := by
    intro i
    rw [app_getD]
    split
    · exact rep_getD _ _
    · by_cases hi : i - (List.replicate ns0.length (0 : Int32)).length < so'.length
      · rw [gD_e hi]; exact x4 _ (List.getElem_mem _)
      · rw [gD_o (by omega)]
  have hC0 : CSt X (ns0 ++ ms) Z [] [] (List.replicate ns0.length 0 ++ so') (va0.take ns0.length ++ va') op re od [] 0 sF1 sN' uP uI := by
    refine ⟨⟨fun d hd => ?_, fun E1 e E2 h => ?_⟩, fun i hi => Or.inr ⟨fun e he => (by cases he), hso i⟩, ⟨S0, Z0, f2⟩, rfl, g7, g1, g2, g3, g4, ⟨g5, fun d hd => g6 d hd⟩, hNS⟩
    · exact g8 d hd
    · cases E1 <;> cases h
  have hlin : sT'.1 0 = nI (1 - 1 + nE (lexS X 0)) := by
    rw [x8.lines, nE_cnt x9]
    congr 1; omega
  have fltN : ∀ {ns : List (List Int32)} {sNx : CS}, nq sNx = nq sN' → ns = ns0 ++ ms → (∃ so va, NmS sNx ns so va op re od) → CNm ns0 op re od sNx := by
    intro ns sNx e1 e2 ⟨so, va, h⟩
    rw [e2] at h
    exact ⟨hKN'.nq (fun j a b => nq_num e1 j a b), ms, so, va, h.1⟩
  refine C_lines (sN0 := sN') (sT0 := sT') (by omega) hTb hX (lexS X 0).length N (lexS X 0) [] 0 1 0 [] [] _ _ sF1 sN' sT' uP uI (Nat.le_refl _) (by omega) rfl (WfE_nil X) (fun e he => (by cases he)) (by rfl) (Nat.zero_le _) (by omega) hC0 hTP (by show 10 + _ < 4990; omega) (by show 0 + _ ≤ 60000; omega) (TQ.rf _) rfl hlin (by omega) ?_ ?_
  · intro hz K' V' so'' va'' sec' sF' sN2 sT2 sP2 sI2 a1 a2 a3 a4 a5 a6 a7
    have hz' : (rdX X).1 = 0 := hz
    have hst := StE_1025 hX hz'
    have hcap2 := nq_cap a3
    have h78 := C_78 (sG := cF sG 0 0) (sR := sR) (sL := sL') (sX := sX) (sT := sT2) (x := 2 * capN sN' + 6 * sT'.2.2 0 + 2 * sY'.2.2 0 + x) (y := capN sN' + 3 * sT'.2.2 0 + sY'.2.2 0 + y) (by omega : 70000 < N) hX hV a1 a4 a6 hst x2 hi0 hi1 (by assumption) hc1
    refine RC_imp h78 (fun v u c hu => ?_)
    obtain ⟨b1, b2, b3, b4, b5, b6, b7, b8, b9⟩ := hu
    have hans : ansX X = if 32768 < allN (strE X 3000 0 (rdX X).2.2).2 then 7 else ckE X (strE X 3000 0 (rdX X).2.2).2 (0, 0) (strE X 3000 0 (rdX X).2.2).2 := by
      unfold ansX stX
      rw [if_neg (fun z => z hz')]
    have hTq2 : sT2.2.2 0 = sT'.2.2 0 := by rw [a2.1]
    refine ⟨?_, ?_, ?_, ⟨Z, by rw [b5]; exact x2⟩, ?_, ?_, b8, fun h0 => ?_⟩
    · rw [b1, b5, b6, b7]
      show ap _ _ _ _ _ _ = ap _ _ _ _ (2 * capN sN2 + 6 * sT2.2.2 0 + 2 * sY'.2.2 0 + x) (capN sN2 + 3 * sT2.2.2 0 + sY'.2.2 0 + y)
      rw [hTq2, hcap2]
    · rw [hans]; exact b2
    · rw [hans, b3, cF_cF]; rfl
    · rw [b6]; exact fltN a3 rfl ⟨_, _, a4.2.2.2.2.2.2.2.2.2.2⟩
    · rw [b7]
      obtain ⟨ts', L, cc, TS, p, tl, -⟩ := a7
      exact ⟨L, cc, tl⟩
    · rw [hans] at h0
      obtain ⟨K, V, so, va, hl⟩ := b9 h0
      refine ⟨ns0 ++ ms, Z, K, V, so, va, ?_⟩
      rw [b6]
      exact hl
  · intro hne hle sF' sN2 sT2 sP2 sI2 a2 a3 a4
    have hne' : (rdX X).1 ≠ 0 := hne
    have hcap2 := nq_cap a3
    have hans : ansX X = (rdX X).1 + 16 * (rdX X).2.1 := by
      unfold ansX
      rw [if_pos hne']
    have hTq2 : sT2.2.2 0 = sT'.2.2 0 := by rw [a2.1]
    obtain ⟨d1, d2, d3, d4, d5, d6⟩ := a4
    have hln : (rdX X).2.1 ≤ 1 + (lexS X 0).length := rdAll_ln X _ _ _ _ _
    have hA : (rdX X).1 + 16 * (rdX X).2.1 < 2 ^ 31 := by
      have : (rdX X).1 ≤ 15 := hle
      omega
    unfold C_Asm_assemble_78
    refine RC_n (fun z => ?_) (C_124 (A := (rdX X).1 + 16 * (rdX X).2.1) hA ⟨?_, by rw [hans], by rw [hans, cF_cF], ⟨Z, x2⟩, fltN a3 rfl d2, ?_, ⟨d1, d4, d5, d6, ⟨i0, hi0⟩, ⟨i1, hi1⟩, by assumption, hc1⟩, fun h0 => ?_⟩)
    · have z' : nI ((rdX X).1 + 16 * (rdX X).2.1) = 0 := z
      rw [show (0 : Int32) = nI 0 from rfl, nI_eq hA (by omega)] at z'
      omega
    · show _ = tp sF' sP2 sI2 _ _
      rw [hTq2, hcap2]
    · obtain ⟨ts', L, cc, TS, p, tl, -⟩ := d3
      exact ⟨L, cc, tl⟩
    · rw [hans] at h0; omega
end
