/-! ===== the class's assemble(), behind the lines ===== -/
theorem StE_1025 {X : List Int32} (hX : X.length ≤ 4096) (h : (rdX X).1 = 0) : (StE (rdX X).2.2).length ≤ 1025 := by
  have T0 : TX ((fun j => if j = 2 then nI X.length else 0, fun a k => if a = 1 then X.getD k 0 else 0) : MS) (tw X) X.length := ⟨rfl, fun k hk => rfl, hX⟩
  obtain ⟨v, σ', -, hR⟩ := M_readAll_eq (N := 5000) (by omega) T0 rfl
  unfold RAP at hR
  rw [if_neg (fun z => z h)] at hR
  have := hR.2.2.2.2.2.1
  have e : (rdX X).2.2 = (rdAll X (lexS X 0).length (lexS X 0) 0 1 []).2.2 := rfl
  rw [e]
  omega
/-- a whole program stands in the class -/
def LdC (X : List Int32) (ns : List (List Int32)) (Y K V so va : List Int32) (R : Nat × List Ev) (sE sN sP sI : CS) (op re od : List Int32) : Prop :=
  PRG X ns Y K V so va R.2 sP sI ∧ NmS sN ns so va op re od ∧ sP.1 0 = nI (cnE R.2) ∧ RowL (rg sP 0) (lbI 10 R.2) ∧ sE.1 0 = nI R.1 ∧ ∃ l l1, RowL (rg sE 0) l ∧ RowL (rg sE 1) l1 ∧ TPr l (allN R.2) (bsE R.2) (secT (ebE X R.2) 0 (0, 0) R.2) (secT (ebE X R.2) 1 (0, 0) R.2) ∧ TPr l1 (allN R.2) (bsE R.2) (secT elE 0 (0, 0) R.2) (secT elE 1 (0, 0) R.2)
abbrev ap (sE sF sP sI : CS) (x y : Nat) : Nat × Nat := tp sF sP sI (2 * sE.2.2 0 + 2 * sE.2.2 1 + x) (sE.2.2 0 + sE.2.2 1 + y)
/-- the rows that may be used again -/
def CVl (sE sF sP sI : CS) : Prop := FVal sF ∧ (∃ l, RowL (rg sP 0) l) ∧ sP.2.2 20 = 10 ∧ LOk sI 0 ∧ (∃ l, RowL (rg sE 0) l) ∧ (∃ l, RowL (rg sE 1) l) ∧ 64 ≤ sE.2.2 0 ∧ 64 ≤ sE.2.2 1
section
variable {N : Nat} {X : List Int32} {ns : List (List Int32)} {Y K V so va op re od : List Int32} {sG sR sL sX sP sI sE sY sN sT sF : CS} {E : List Ev} {x y : Nat}
def AsP (X : List Int32) (ns : List (List Int32)) (Y : List Int32) (R : Nat × List Ev) (op re od : List Int32) (A : Nat) (sG sL sY sN sT : CS) (x y : Nat) (v : Int32) (u : CS × CS × CS × CS × CS × CS × CS × CS × CS) (c : Nat × Nat) : Prop :=
  c = ap u.2.2.1 u.2.2.2.2.1 u.2.2.2.2.2.2.2.1 u.2.2.2.2.2.2.2.2 x y ∧ v = nI A ∧ u.1 = cF sG 0 (b2 (decide (A = 0))) ∧ u.2.1 = sL ∧ u.2.2.2.1 = sY ∧ u.2.2.2.2.2.1 = sN ∧ u.2.2.2.2.2.2.1 = sT ∧ CVl u.2.2.1 u.2.2.2.2.1 u.2.2.2.2.2.2.2.1 u.2.2.2.2.2.2.2.2 ∧ (A = 0 → ∃ K V so va, LdC X ns Y K V so va R u.2.2.1 sN u.2.2.2.2.2.2.2.1 u.2.2.2.2.2.2.2.2 op re od)
theorem C_124 {A : Nat} (hA : A < 2 ^ 31) {Q : Int32 → CS × CS × CS × CS × CS × CS × CS × CS × CS → Nat × Nat → Prop} {c : Nat × Nat} (h : Q (nI A) (cF sG 0 (b2 (decide (A = 0))), sL, sE, sY, sF, sN, sT, sP, sI) c) : RC c (C_Asm_assemble_114 N (nI A) sG sR sL sX sE sY sF sN sT sP sI) Q := by
  unfold C_Asm_assemble_114 C_Asm_assemble_124
  by_cases hz : A = 0
  · rw [decide_eq_true hz] at h
    refine RC_y (by rw [hz]; rfl) (RC_gd rfl (RC_bnd (RC_ret h)))
  · rw [decide_eq_false hz] at h
    refine RC_n (fun z => hz ?_) (RC_gd rfl (RC_bnd (RC_ret h)))
    rw [show (0 : Int32) = nI 0 from rfl, nI_eq (by omega) (by omega)] at z
    exact z
theorem ckE_lt (X : List Int32) (E0 : List Ev) : ∀ (E : List Ev) (s : Sz), (∀ e ∈ E, e.2.2.1 < 10000) → ckE X E0 s E < 200000
  | [], s, _ => by show 0 < 200000; omega
  | e :: r, s, h => by
    rw [ckE]
    split
    · have := ckB_le (ηE X E0 s e) (aE E0 s e) e.2.2.2.2.2
      have := h e List.mem_cons_self
      omega
    · exact ckE_lt X E0 r _ (fun x hx => h x (List.mem_cons_of_mem _ hx))
theorem C_78 (hN : 70000 < N) (hX : X.length ≤ 4096) (hV : ∀ c ∈ X, okT c) (hW : WfE X E) {sec : Nat} (hS : CSt X ns Y K V so va op re od E sec sF sN sP sI) (hK : K.length ≤ 60000) (hst : (StE E).length ≤ 1025) (hY : RowL sY Y) {i0 i1 : List Int32} (hi0 : RowL (rg sE 0) i0) (hi1 : RowL (rg sE 1) i1) (c0 : 64 ≤ sE.2.2 0) (c1 : 64 ≤ sE.2.2 1) :
    RC (ap sE sF sP sI x y) (C_Asm_assemble_78 N 0 sG sR sL sX sE sY sF sN sT sP sI) (AsP X ns Y (strE X 3000 0 E) op re od (if 32768 < allN (strE X 3000 0 E).2 then 7 else ckE X (strE X 3000 0 E).2 (0, 0) (strE X 3000 0 E).2) sG sL sY sN sT x y) := by
  obtain ⟨h1, h2, ⟨S, Z, hF⟩, hKV, hL, h6, h7, hc, h9, ⟨h20, -⟩, h11⟩ := hS
  have hL5 := hL.2.2.1
  have hLc := hL.1
  have hmu := mu_le (WfE_SI hX hW)
  have hmuc := muE_cI E hW.its
  have hcd : cI E = 10 + (E.map nit).sum := rfl
  unfold C_Asm_assemble_78 C_Enc_settle
  refine RC_y rfl ?_
  obtain ⟨sP1, sI1, p1, p2, p3, p4, p5, p6, p7⟩ := C_place (N := N) hX hW h1 hL hc (by omega)
  have hP1 : sP1.1 1 = nI (cI E) := by rw [p5 1 (by decide) (by decide) (by decide)]; exact hc
  have hap : ap sE sF sP sI x y = fp sF (2 * sP.2.2 0 + (9 * sI.2.2 0 + 4 * sI.2.2 1) + (2 * sE.2.2 0 + 2 * sE.2.2 1 + x)) (sP.2.2 0 + 64 * (sI.2.2 0 + sI.2.2 1) + (sE.2.2 0 + sE.2.2 1 + y)) := tp_f _ _ _ _ _
  rw [hap]
  have hset : RC (fp sF (2 * sP.2.2 0 + (9 * sI.2.2 0 + 4 * sI.2.2 1) + (2 * sE.2.2 0 + 2 * sE.2.2 1 + x)) (sP.2.2 0 + 64 * (sI.2.2 0 + sI.2.2 1) + (sE.2.2 0 + sE.2.2 1 + y))) (bnd (cF sE 0 0) (fun sE1 => cl (C_Prg_place N sP sI) (fun r2 u3 => C_Enc_settle_22 N N (2 * (u3.1.1 1)) sE1 sY sF sN sT u3.1 u3.2))) (fun v u c => c = fp u.2.1 (2 * sP.2.2 0 + (9 * sI.2.2 0 + 4 * sI.2.2 1) + (2 * sE.2.2 0 + 2 * sE.2.2 1 + x)) (sP.2.2 0 + 64 * (sI.2.2 0 + sI.2.2 1) + (sE.2.2 0 + sE.2.2 1 + y)) ∧ StlP X ns Y K V so va S E (strE X 3000 0 E) sE sP1 sI1 u) := by
    refine RC_bnd (RC_cl p1 ?_)
    simp only []
    rw [hP1, show (2 : Int32) = nI 2 from rfl, pk_mul]
    exact C_settle22 (sE0 := sE) (sY := sY) (sT := sT) (M := 2 * cI E) hN h11 hK (by omega) 3000 0 N E Z sF sP1 sI1 (by omega) (by omega) (by omega) ⟨hX, hW, h2, p2, p3, hP1, p4⟩ (by rw [p6]; exact h20) hF
  refine RC_then hset (fun v u c hu => ?_)
  obtain ⟨rfl, w1, w2, ⟨Z', w3⟩, w4, w5, w6, -, w8, w9, w10⟩ := hu
  obtain ⟨uE, uF, uP, uI⟩ := u
  simp only [] at w1 w2 w3 w4 w5 w6 ⊢
  have h' := w1
  obtain ⟨-, hW', hNm', hPr', hL', hc', hPl'⟩ := w1
  have hend := C_end hX hW' hPl'
  have hla := lay_all hX hW'
  have hbg := base_ge (lay (0, 0) (strE X 3000 0 E).2).1
  have hall : allN (strE X 3000 0 E).2 < 2 ^ 30 := by
    have hbs : bsE (strE X 3000 0 E).2 = baseN (lay (0, 0) (strE X 3000 0 E).2).1 := rfl
    unfold allN
    split <;> omega
  have hPcaps : uP.2 = sP.2 := by rw [w5, p6]
  have hIcaps : uI.2.2 = sI.2.2 := by rw [w6, p7]
  have hEcaps : uE.2.2 = sE.2.2 := by rw [w2]; rfl
  have hE0 : rg uE 0 = rg sE 0 := by rw [w2]; exact rg_cF (by decide)
  have hE1 : rg uE 1 = rg sE 1 := by rw [w2]; exact rg_cF (by decide)
  have hP0 : uP.1 0 = nI (cnE (strE X 3000 0 E).2) := by rw [w4 0 (by decide) (by decide) (by decide), p5 0 (by decide) (by decide) (by decide), w10]; exact h7
  have hrow : RowL (rg uP 0) (lbI 10 (strE X 3000 0 E).2) := by
    rw [w9]
    have : rg uP 0 = rg sP 0 := by
      unfold rg
      rw [hPcaps, w4 100 (by decide) (by decide) (by decide), p5 100 (by decide) (by decide) (by decide)]
    rw [this]
    exact h6
  have h20' : uP.2.2 20 = 10 := by rw [hPcaps]; exact h20
  refine RC_cr hend ?_
  by_cases hbig : 32768 < allN (strE X 3000 0 E).2
  · refine RC_n (fun z => ?_) ?_
    · rw [show (32768 : Int32) = nI 32768 from rfl, nI_leI (by omega) (by omega)] at z
      omega
    rw [if_pos hbig]
    unfold C_Asm_assemble_113
    refine C_124 (A := 7) (by omega) ⟨?_, rfl, rfl, rfl, rfl, rfl, rfl, ⟨⟨_, _, _, _, w3⟩, ⟨_, hrow⟩, h20', hL'.z, ⟨_, by rw [hE0]; exact hi0⟩, ⟨_, by rw [hE1]; exact hi1⟩, by rw [hEcaps]; exact c0, by rw [hEcaps]; exact c1⟩, fun z => absurd z (by omega)⟩
    show _ = tp uF uP uI (2 * uE.2.2 0 + 2 * uE.2.2 1 + x) (uE.2.2 0 + uE.2.2 1 + y)
    rw [tp_f, hPcaps, hIcaps, hEcaps]
  · refine RC_y ?_ ?_
    · rw [show (32768 : Int32) = nI 32768 from rfl, nI_leI (by omega) (by omega)]
      omega
    rw [if_neg hbig]
    have hee := C_encodeAll (x := 2 * sP.2.2 0 + (9 * sI.2.2 0 + 4 * sI.2.2 1) + x) (y := sP.2.2 0 + 64 * (sI.2.2 0 + sI.2.2 1) + y) (sT := sT) hN h' hV h11 h20' hK hY w3 (by omega) (by rw [hE0]; exact hi0) (by rw [hE1]; exact hi1) (by rw [hEcaps]; exact c0) (by rw [hEcaps]; exact c1)
    have ec : fp uF (2 * sP.2.2 0 + (9 * sI.2.2 0 + 4 * sI.2.2 1) + (2 * sE.2.2 0 + 2 * sE.2.2 1 + x)) (sP.2.2 0 + 64 * (sI.2.2 0 + sI.2.2 1) + (sE.2.2 0 + sE.2.2 1 + y)) = (2 * capF uF + (2 * uE.2.2 0 + 2 * uE.2.2 1) + (2 * sP.2.2 0 + (9 * sI.2.2 0 + 4 * sI.2.2 1) + x), capF uF + (uE.2.2 0 + uE.2.2 1) + (sP.2.2 0 + 64 * (sI.2.2 0 + sI.2.2 1) + y)) := by
      rw [hEcaps]
      exact Prod.ext (by simp only []; omega) (by simp only []; omega)
    rw [ec]
    refine RC_then hee (fun v2 w c2 hw => ?_)
    obtain ⟨rfl, rfl, g3, g4, g5, g6, l, l1, g7, g8, g9⟩ := hw
    unfold C_Asm_assemble_113
    have hlt : ckE X (strE X 3000 0 E).2 (0, 0) (strE X 3000 0 E).2 < 200000 := ckE_lt X _ _ _ (fun e he => by
      obtain ⟨A, B, hAB⟩ := List.append_of_mem he
      have := (hW' A e B hAB).2.2.2.1
      have hn := nlc_le X e.2.1
      have hp := (hW' A e B hAB).2.1
      omega)
    refine C_124 (by omega) ⟨?_, rfl, rfl, rfl, rfl, rfl, rfl, ⟨g3, ⟨_, hrow⟩, h20', hL'.z, ⟨_, g7⟩, ⟨_, g8⟩, g5, g6⟩, fun hz => ⟨K, V, so, va, h', h11, hP0, hrow, ?_, l, l1, g7, g8, (g9 hz).1, (g9 hz).2⟩⟩
    · show _ = tp w.2 uP uI (2 * w.1.2.2 0 + 2 * w.1.2.2 1 + x) (w.1.2.2 0 + w.1.2.2 1 + y)
      rw [tp_f, hPcaps, hIcaps]
      exact Prod.ext (by simp only []; omega) (by simp only []; omega)
    · show w.1.1 0 = _
      rw [g4, w2, cF_at]
end
