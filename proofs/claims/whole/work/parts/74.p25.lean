/-! ===== bytes that are put; expressions in statements ===== -/
def byt (w : Int32) (i : Nat) : Int32 := (w >>> (((8 : Int32) * nI i) &&& 31)) &&& 255
def wB (w : Int32) (n : Nat) : List Int32 := (List.range n).map (byt w)
theorem wB_len (w : Int32) (n : Nat) : (wB w n).length = n := by simp [wB]
theorem shr_0 (w : Int32) : w >>> (0 : Int32) = w := by
  apply Int32.toBitVec_inj.mp
  rw [Int32.toBitVec_shiftRight, BitVec.sshiftRight_eq', show (((0 : Int32).toBitVec).smod 32).toNat = 0 from by decide, BitVec.sshiftRight_zero]
theorem shr_24 (w : Int32) : (w >>> (16 : Int32)) >>> (8 : Int32) = w >>> (24 : Int32) := by
  apply Int32.toBitVec_inj.mp
  rw [Int32.toBitVec_shiftRight, Int32.toBitVec_shiftRight, Int32.toBitVec_shiftRight, BitVec.sshiftRight_eq', BitVec.sshiftRight_eq', BitVec.sshiftRight_eq', show (((8 : Int32).toBitVec).smod 32).toNat = 8 from by decide, show (((16 : Int32).toBitVec).smod 32).toNat = 16 from by decide, show (((24 : Int32).toBitVec).smod 32).toNat = 16 + 8 from by decide, BitVec.sshiftRight_add]
theorem byt_0 (w : Int32) : byt w 0 = w &&& 255 := by
  unfold byt
  rw [show ((8 : Int32) * nI 0) &&& 31 = 0 from by decide, shr_0]
theorem byt_1 (w : Int32) : byt w 1 = (w >>> ((8 : Int32) &&& 31)) &&& 255 := by
  unfold byt
  rw [show ((8 : Int32) * nI 1) &&& 31 = 8 from by decide, show ((8 : Int32) &&& 31) = 8 from by decide]
theorem byt_2 (w : Int32) : byt w 2 = (w >>> ((16 : Int32) &&& 31)) &&& 255 := by
  unfold byt
  rw [show ((8 : Int32) * nI 2) &&& 31 = 16 from by decide, show ((16 : Int32) &&& 31) = 16 from by decide]
theorem byt_3 (w : Int32) : byt w 3 = ((w >>> ((16 : Int32) &&& 31)) >>> ((8 : Int32) &&& 31)) &&& 255 := by
  unfold byt
  rw [show ((8 : Int32) * nI 3) &&& 31 = 24 from by decide, show ((16 : Int32) &&& 31) = 16 from by decide, show ((8 : Int32) &&& 31) = 8 from by decide, shr_24]
theorem wB_2 (w : Int32) : wB w 2 = [w &&& 255, (w >>> ((8 : Int32) &&& 31)) &&& 255] := by
  show [byt w 0, byt w 1] = _
  rw [byt_0, byt_1]
theorem wB_4 (w : Int32) : wB w 4 = [w &&& 255, (w >>> ((8 : Int32) &&& 31)) &&& 255, (w >>> ((16 : Int32) &&& 31)) &&& 255, ((w >>> ((16 : Int32) &&& 31)) >>> ((8 : Int32) &&& 31)) &&& 255] := by
  show [byt w 0, byt w 1, byt w 2, byt w 3] = _
  rw [byt_0, byt_1, byt_2, byt_3]
/-- σ is σ1 with the bytes B put -/
def PUT (σ1 : MS) (B : List Int32) (σ : MS) : Prop := (∀ j, j ≠ 20 → j ≠ 22 → σ.1 j = σ1.1 j) ∧ σ.2 = σ1.2 ∧ σ.1 20 = nI B.length ∧ σ.1 22 = gw σ1 B
theorem P_put {σ1 σ : MS} {B : List Int32} (h : PUT σ1 B σ) (b : Int32) : RR (M_put b σ) (fun _ σ' => PUT σ1 (B ++ [b &&& 255]) σ') := by
  obtain ⟨h1, h2, h3, h4⟩ := h
  have h17 := h1 17 (by decide) (by decide)
  have h21 := h1 21 (by decide) (by decide)
  unfold M_put M_put_28
  rw [h17, h21, h3]
  have fin : ∀ (τ : MS), (∀ j, j ≠ 20 → j ≠ 22 → τ.1 j = σ1.1 j) → τ.2 = σ1.2 → τ.1 20 = nI B.length → τ.1 22 = gw σ1 (B ++ [b &&& 255]) → RR (bnd (sF τ 20 ((τ.1 20) + 1)) (fun σ1 => some ((0 : Int32), σ1))) (fun _ σ' => PUT σ1 (B ++ [b &&& 255]) σ') := by
    intro τ t1 t2 t3 t4
    refine RR_bnd (RR_ret ⟨fun j j1 j2 => ?_, t2, ?_, ?_⟩)
    · rw [sF_ne _ _ j1]; exact t1 j j1 j2
    · rw [sF_at, t3, nI_1]; simp
    · rw [sF_ne _ _ (by decide)]; exact t4
  rw [gw_snoc] at fin
  refine RR_if (fun c => ?_) (fun c => ?_)
  · refine RR_if (fun d => RR_bnd ?_) (fun d => ?_)
    · refine fin (sF σ 22 (b &&& 255)) (fun j j1 j2 => ?_) h2 ?_ ?_
      · rw [sF_ne _ _ j2]; exact h1 j j1 j2
      · rw [sF_ne _ _ (by decide)]; exact h3
      · rw [sF_at, if_pos c, if_pos d]
    · have := fin σ h1 h2 h3 (by rw [h4, if_pos c, if_neg d])
      rw [h3] at this
      exact this
  · have := fin σ h1 h2 h3 (by rw [h4, if_neg c]; unfold gw; rw [if_neg c])
    rw [h3] at this
    exact this
theorem P_half {σ1 σ : MS} {B : List Int32} (h : PUT σ1 B σ) (w : Int32) : RR (M_half w σ) (fun _ σ' => PUT σ1 (B ++ wB w 2) σ') := by
  unfold M_half
  refine RR_then (P_put h w) (fun _ σ2 h2 => RR_then (P_put h2 _) (fun _ σ3 h3 => RR_ret ?_))
  rw [wB_2, show B ++ [w &&& 255, (w >>> ((8 : Int32) &&& 31)) &&& 255] = (B ++ [w &&& 255]) ++ [(w >>> ((8 : Int32) &&& 31)) &&& 255] by simp]
  exact h3
theorem P_word {σ1 σ : MS} {B : List Int32} (h : PUT σ1 B σ) (w : Int32) : RR (M_word w σ) (fun _ σ' => PUT σ1 (B ++ wB w 4) σ') := by
  unfold M_word
  refine RR_then (P_half h w) (fun _ σ2 h2 => RR_then (P_half h2 _) (fun _ σ3 h3 => RR_ret ?_))
  have e : wB w 4 = wB w 2 ++ wB (w >>> ((16 : Int32) &&& 31)) 2 := by rw [wB_4, wB_2, wB_2]; rfl
  rw [e, ← List.append_assoc]
  exact h3
section
variable {N : Nat} {X : List Int32} {σ0 : MS} {Λ : List Lb} {ln cur start : Nat}
theorem gw_fz {σ : MS} (h : FZ σ0 σ) (B : List Int32) : gw σ B = gw σ0 B := by
  unfold gw
  rw [h.1 17 (by decide), h.1 21 (by decide)]
theorem GS.put {q : Nat} {B : List Int32} {σ : MS} (h : GS X σ0 q B σ) : PUT σ B σ := ⟨fun _ _ _ => rfl, rfl, h.2.2.2.1, by rw [gw_fz h.1]; exact h.2.2.2.2⟩
theorem GS.of {q : Nat} {B B' : List Int32} {σ σ' : MS} (h : GS X σ0 q B σ) (h2 : PUT σ B' σ') : GS X σ0 q B' σ' := by
  obtain ⟨p1, p2, p3, p4⟩ := h2
  refine ⟨⟨fun j hj => ?_, fun k hk => by rw [p2]; exact h.1.2 k hk⟩, h.2.1, ?_, p3, ?_⟩
  · obtain ⟨-, -, -, -, -, j6, j7, -⟩ := vol_z hj
    rw [p1 j j6 j7]
    exact h.1.1 j hj
  · rw [p1 9 (by decide) (by decide)]; exact h.2.2.1
  · rw [p4, gw_fz h.1]
theorem G_word {ts : List AT} {B : List Int32} {σ : MS} (h : GR X σ0 ts B σ) (w : Int32) : RR (M_word w σ) (fun _ σ' => GR X σ0 ts (B ++ wB w 4) σ') := by
  obtain ⟨q, hl, hG⟩ := h
  exact RR_imp (P_word hG.put w) (fun _ σ' h' => ⟨q, hl, hG.of h'⟩)
theorem G_half {ts : List AT} {B : List Int32} {σ : MS} (h : GR X σ0 ts B σ) (w : Int32) : RR (M_half w σ) (fun _ σ' => GR X σ0 ts (B ++ wB w 2) σ') := by
  obtain ⟨q, hl, hG⟩ := h
  exact RR_imp (P_half hG.put w) (fun _ σ' h' => ⟨q, hl, hG.of h'⟩)
theorem G_put {ts : List AT} {B : List Int32} {σ : MS} (h : GR X σ0 ts B σ) (w : Int32) : RR (M_put w σ) (fun _ σ' => GR X σ0 ts (B ++ [w &&& 255]) σ') := by
  obtain ⟨q, hl, hG⟩ := h
  exact RR_imp (P_put hG.put w) (fun _ σ' h' => ⟨q, hl, hG.of h'⟩)
theorem FS.sFv {F : Int32} {σ : MS} (h : FS X σ0 F σ) {j : Nat} (v : Int32) (hj : volR j = true) (h9 : j ≠ 9) (h14 : j ≠ 14) : FS X σ0 F (sF σ j v) := by
  refine ⟨⟨fun i hi => ?_, fun k a b c => h.1.2 k a b c⟩, ?_, ?_⟩
  · rw [sF_ne _ _ (fun z => by subst z; rw [hj] at hi; cases hi)]
    exact h.1.1 i hi
  · obtain ⟨q, a, b⟩ := h.2.1
    exact ⟨q, a, by rw [sF_ne _ _ (Ne.symm h9)]; exact b⟩
  · rw [sF_ne _ _ (Ne.symm h14)]; exact h.2.2
theorem FS_put {F : Int32} {σ : MS} (h : FS X σ0 F σ) (b : Int32) : RR (M_put b σ) (fun _ σ' => FS X σ0 F σ') := by
  unfold M_put M_put_28
  have fin : ∀ τ, FS X σ0 F τ → RR (bnd (sF τ 20 ((τ.1 20) + 1)) (fun σ1 => some ((0 : Int32), σ1))) (fun _ σ' => FS X σ0 F σ') := fun τ ht => RR_bnd (RR_ret (ht.sFv _ (by decide) (by decide) (by decide)))
  exact RR_if (fun _ => RR_if (fun _ => RR_bnd (fin _ (h.sFv _ (by decide) (by decide) (by decide)))) (fun _ => fin _ h)) (fun _ => fin _ h)
theorem FS_half {F : Int32} {σ : MS} (h : FS X σ0 F σ) (b : Int32) : RR (M_half b σ) (fun _ σ' => FS X σ0 F σ') := by
  unfold M_half
  exact RR_then (FS_put h _) (fun _ σ2 h2 => RR_then (FS_put h2 _) (fun _ σ3 h3 => RR_ret h3))
theorem FS_word {F : Int32} {σ : MS} (h : FS X σ0 F σ) (b : Int32) : RR (M_word b σ) (fun _ σ' => FS X σ0 F σ') := by
  unfold M_word
  exact RR_then (FS_half h _) (fun _ σ2 h2 => RR_then (FS_half h2 _) (fun _ σ3 h3 => RR_ret h3))
/-- a fault that only a check tells -/
def CK (X : List Int32) (σ0 : MS) (ln f : Nat) (P : MS → Prop) (σ : MS) : Prop := if σ0.1 17 = 2 ∧ f ≠ 0 then FS X σ0 (fl ln f) σ else P σ
theorem CK.cases {f : Nat} {P : MS → Prop} {σ : MS} (h : CK X σ0 ln f P σ) : (σ0.1 17 = 2 ∧ f ≠ 0 ∧ FS X σ0 (fl ln f) σ) ∨ (¬ (σ0.1 17 = 2 ∧ f ≠ 0) ∧ P σ) := by
  unfold CK at h
  by_cases c : σ0.1 17 = 2 ∧ f ≠ 0
  · rw [if_pos c] at h; exact Or.inl ⟨c.1, c.2, h⟩
  · rw [if_neg c] at h; exact Or.inr ⟨c, h⟩
theorem CK.y {f : Nat} {P : MS → Prop} {σ : MS} (h1 : σ0.1 17 = 2) (h2 : f ≠ 0) (h : FS X σ0 (fl ln f) σ) : CK X σ0 ln f P σ := by
  unfold CK; rw [if_pos ⟨h1, h2⟩]; exact h
theorem CK.n {f : Nat} {P : MS → Prop} {σ : MS} (h1 : ¬ (σ0.1 17 = 2 ∧ f ≠ 0)) (h : P σ) : CK X σ0 ln f P σ := by
  unfold CK; rw [if_neg h1]; exact h
abbrev η0 (X : List Int32) (Λ : List Lb) (σ0 : MS) (start : Nat) : Int32 → AT → Int32 × Bool := ηR X Λ (baseR σ0) (σ0.1 19) start
def mdF (m d : Bool) : Nat := if m = true then 8 else if d = true then 9 else 0
theorem fl_ne0 (C : Cx N X σ0 Λ ln cur start) {k : Nat} (hk : 1 ≤ k ∧ k ≤ 15) : fl ln k ≠ 0 := fl_ne C.2.2.2.2.1 k hk
theorem G_expr (C : Cx N X σ0 Λ ln cur start) {ts : List AT} {B : List Int32} {σ : MS} (h : GR X σ0 ts B σ) : RR (M_expression N σ) (fun v σ' => (cmpT ts = none ∧ FS X σ0 (fl ln 1) σ') ∨ (∃ R rest m d, cmpT ts = some (R, rest) ∧ evR (η0 X Λ σ0 start) R = ([v], m, d) ∧ σ'.1 24 = b2 m ∧ σ'.1 25 = b2 d ∧ σ'.1 26 = b2 (R.any (lz (loR X Λ))) ∧ CK X σ0 ln (mdF m d) (GR X σ0 rest B) σ')) := by
  obtain ⟨q, hl, hF, hq, h9, h20, h22⟩ := h
  obtain ⟨c1, c2, c3, c4, c5, c6, c7, c8, c9, c10⟩ := C
  have T : TX σ (tw X) X.length := hF.fr.tx c2
  have hX := c2.small
  have hL : LBs X σ Λ := by
    obtain ⟨l1, l2, l3⟩ := c3
    exact ⟨by rw [hF.1 5 (by decide)]; exact l1, l2, fun i hi => by rw [hF.2 5 (by decide), hF.2 6 (by decide)]; exact l3 i hi⟩
  have hb : baseR σ = baseR σ0 := by unfold baseR; rw [hF.1 6 (by decide)]
  have h19 : σ.1 19 = σ0.1 19 := hF.1 19 (by decide)
  have oN := OpN_mk c1 T hL start
  have oB := OpB_mk c1 T hL (by rw [hF.1 18 (by decide)]; exact c6) c7 (by rw [hF.2 2 (by decide)]; exact c8) c9
  rw [hb, h19] at oN oB
  have key := M_expr c1 hX c5 (by rw [hF.1 15 (by decide)]; exact c4) T (fun a => by unfold ηR; rw [if_pos rfl]) oN oB (OpP_mk (by omega) T) hq h9 (by rw [hF.1 14 (by decide)]; exact c10) hl
  have h17 : σ.1 17 = σ0.1 17 := hF.1 17 (by decide)
  have fe : ∀ σ', FE σ σ' → (∀ j, volR j = false → σ'.1 j = σ0.1 j) ∧ (∀ k, k ≠ 7 → σ'.2 k = σ0.2 k) := by
    intro σ' hE
    refine ⟨fun j hj => ?_, fun k hk => (hE.2 k hk).trans (hF.2 k hk)⟩
    obtain ⟨j1, j2, j3, j4, j5, j6, j7, j8, j9, j10, j11, j12, j13, j14, j15⟩ := vol_sc hj
    rw [hE.1 j (by omega) j11 j12 j13 j14 j15]
    exact hF.1 j (volR_Z hj)
  cases hc : cmpT ts with
  | none =>
    rw [hc] at key
    obtain ⟨v, σ', x1, x2, x3, x4⟩ := key
    exact ⟨v, σ', x1, Or.inl ⟨rfl, ⟨(fe σ' x3).1, fun k _ _ k7 => (fe σ' x3).2 k k7⟩, x4, x2⟩⟩
  | some y =>
    obtain ⟨R, rest⟩ := y
    rw [hc] at key
    obtain ⟨v, σ', m, d, q', x1, x2, x3, x4, x5, x6, x7, x8, x9, x10⟩ := key
    refine ⟨v, σ', x2, Or.inr ⟨R, rest, m, d, rfl, x1, x8, x9, x10, ?_⟩⟩
    rw [h17] at x4
    by_cases cc : σ0.1 17 = 2 ∧ (m || d) = true
    · rw [if_pos cc] at x4
      have hm : mdF m d = if m = true then 8 else 9 := by
        unfold mdF
        cases m <;> cases d <;> simp at cc ⊢
      refine CK.y cc.1 (by rw [hm]; split <;> decide) ⟨⟨(fe σ' x3).1, fun k _ _ k7 => (fe σ' x3).2 k k7⟩, ⟨q', x7, x5⟩, ?_⟩
      rw [x4, hm]
    · rw [if_neg cc] at x4
      refine CK.n (fun z => cc ⟨z.1, ?_⟩) ⟨q', x6, ⟨fun j hj => ?_, (fe σ' x3).2⟩, x7, x5, ?_, ?_⟩
      · have := z.2
        unfold mdF at this
        revert this
        cases m <;> cases d <;> simp
      · by_cases j14 : j = 14
        · subst j14; rw [x4]; exact c10.symm
        · obtain ⟨j1, j2, j3, j4, j5, j6, j7, j8, j9, j10, j11, j12⟩ := vol_z hj
          rw [x3.1 j (by omega) j8 j9 j10 j11 j12]
          exact hF.1 j hj
      · rw [x3.1 20 (by omega) (by decide) (by decide) (by decide) (by decide) (by decide)]; exact h20
      · rw [x3.1 22 (by omega) (by decide) (by decide) (by decide) (by decide) (by decide)]; exact h22
end
