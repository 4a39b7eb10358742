/-! ===== jumps as shapes; la; fixed expressions; li ===== -/
def isReg : List AT → Bool
  | a :: _ => decide (a.k = 2) && decide (0 ≤ regR a.nm)
  | [] => false
section
variable {N : Nat} {X : List Int32} {σ0 : MS} {Λ : List Lb} {ln cur start : Nat}
theorem GR_back {ts : List AT} {B : List Int32} {σ σ1 : MS} {q : Nat} (hl : lexS X q = ts) (hg : GS X σ0 q B σ) (hF : FZ σ0 σ1) (h20 : σ1.1 20 = nI B.length) (h22 : σ1.1 22 = gw σ0 B) : GR X σ0 ts B (sF σ1 9 (σ.1 9)) := by
  refine ⟨q, hl, ⟨fun j hj => ?_, hF.2⟩, hg.2.1, ?_, ?_, ?_⟩
  · obtain ⟨j1, -⟩ := vol_z hj
    rw [sF_ne _ _ j1]; exact hF.1 j hj
  · rw [sF_at]; exact hg.2.2.1
  · rw [sF_ne _ _ (by decide)]; exact h20
  · rw [sF_ne _ _ (by decide)]; exact h22
/-- jumps() looks ahead for a register -/
theorem G_jumps (C : Cx N X σ0 Λ ln cur start) {s w : Int32} {ts : List AT} {B : List Int32} {σ : MS} {Q : Int32 → MS → Prop} (h : GR X σ0 ts B σ) (go : ∀ σ1, GR X σ0 ts B σ1 → RR (if s = 34 then M_jumps_55 N s w σ1 else (if b2 (isReg ts) = 0 then M_jumps_55 N s w σ1 else cl (M_taken N σ1) (fun r2 σ3 => cl (M_comma N σ3) (fun r4 σ5 => (if r4 = 0 then some ((0 : Int32), σ5) else cl (M_expression N σ5) (fun r6 σ7 => cl (M_fits (r6 - (σ7.1 19)) (-1048576 : Int32) (1048574 : Int32) (2 : Int32) σ7) (fun r8 σ9 => cr (M_jumpBits (r6 - (σ7.1 19))) (fun r10 => cl (M_word ((w ||| (r2 <<< ((7 : Int32) &&& 31))) ||| r10) σ9) (fun r11 σ12 => some ((0 : Int32), σ12)))))))))) Q) : RR (M_jumps N s w σ) Q := by
  have hN := C.1
  obtain ⟨q, a, r, σ1, e, hl, hg, s1, s2, s3, s4, s5, s6, s7⟩ := G_scan C h
  have hG := GR_back hl hg s3 s4 s5
  rw [← e] at hG
  have key := go _ hG
  unfold M_jumps M_jumps_36
  rw [s1]
  simp only [cl, Option.bind_some]
  have no : isReg ts = false → RR (M_jumps_37 N s w (σ.1 9) 0 σ1) Q := by
    intro hr
    rw [hr] at key
    exact key
  have yes : isReg ts = true → RR (M_jumps_37 N s w (σ.1 9) 1 σ1) Q := by
    intro hr
    rw [hr] at key
    exact key
  by_cases k0 : a.k = 0
  · refine RR_n (by rw [(s2.2.2.1 k0).1]; decide) (no ?_)
    rw [e]; show (decide (a.k = 2) && _) = false; rw [k0]; rfl
  by_cases k1 : a.k = 1
  · refine RR_n (by rw [(s2.2.2.2.1 k1).1]; decide) (no ?_)
    rw [e]; show (decide (a.k = 2) && _) = false; rw [k1]; rfl
  obtain ⟨v1, v2, v3, v4, v5, v6, v7, v8, v9, -⟩ := s2.2.2.2.2 k0 k1
  obtain ⟨er, hTF⟩ := s6 k0 k1
  have f7 := (okK_facts hTF.1).2.2.2.2.2.2.1
  by_cases k2 : a.k = 2
  · refine RR_y (by rw [v1]; exact f7.mpr k2) ?_
    rw [v3, v4, M_register_eq s7 (by omega) (by omega) v9, ← (hTF.2.2.2 k2).1]
    simp only [cr, Option.bind_some]
    refine RR_if (fun z => no ?_) (fun z => yes ?_)
    · rw [e]; show (decide (a.k = 2) && decide (0 ≤ regR a.nm)) = false
      rw [decide_eq_false (Int32.not_le.mpr z), Bool.and_false]
    · rw [e]; show (decide (a.k = 2) && decide (0 ≤ regR a.nm)) = true
      rw [decide_eq_true k2, decide_eq_true (Int32.not_lt.mp z)]; rfl
  · refine RR_n (by rw [v1]; exact fun z => k2 (f7.mp z)) (no ?_)
    rw [e]; show (decide (a.k = 2) && _) = false; rw [decide_eq_false k2]; rfl
theorem K_jump (C : Cx N X σ0 Λ ln cur start) {dd lev sec kd0 : Nat} {ts : List AT} {B : List Int32} {σ : MS} (h : GR X σ0 ts B σ) (hd : dd < 2) (hp : Px σ0 cur start lev sec kd0) (hl : Lok σ0 lev (shp [120] ts (111 ||| (nI dd <<< ((7 : Int32) &&& 31))) 0 [])) : RR (M_jump N (nI dd) σ) (fun _ σ' => OutK X Λ σ0 ln cur start lev sec B (shp [120] ts (111 ||| (nI dd <<< ((7 : Int32) &&& 31))) 0 []) σ') := by
  obtain ⟨p1, p2, p3, p4, p5⟩ := hp
  have hl2 := Lok_1 (by simp) hl
  have eL : ∀ w, LvR 120 w = 0 := fun w => rfl
  have ek : ∀ w, kdO 120 w = 1 := fun w => rfl
  have hm1 : lvM 120 = 1 := rfl
  refine RR_imp (J_jump C (L := Lv σ0 lev 120 (111 ||| (nI dd <<< ((7 : Int32) &&& 31)))) (pl := plv σ0 cur start sec 120 (111 ||| (nI dd <<< ((7 : Int32) &&& 31)))) h hd p1 p2 p3 p4 (fun z => ⟨(p5 z).1, (p5 z).2, ?_⟩) (fun z => ?_) ?_ ?_) (fun _ σ' h' => K_of (by simp) h')
  · unfold Lv; rw [if_pos z]; rfl
  · unfold Lv; rw [if_neg z]
  · unfold Lv
    split
    · exact Nat.zero_le _
    · rename_i z; have := hl2 z; omega
  · unfold plv
    rw [eL, ek]
theorem J_34 (C : Cx N X σ0 Λ ln cur start) {dd lev sec kd0 : Nat} {ts : List AT} {B : List Int32} {σ : MS} (h : GR X σ0 ts B σ) (hd : dd < 2) (hp : Px σ0 cur start lev sec kd0) (hl : Lok σ0 lev (shp [120] ts (111 ||| (nI dd <<< ((7 : Int32) &&& 31))) 0 [])) : RR (M_jumps N 34 (nI dd) σ) (fun _ σ' => OutK X Λ σ0 ln cur start lev sec B (shp [120] ts (111 ||| (nI dd <<< ((7 : Int32) &&& 31))) 0 []) σ') := by
  refine G_jumps C h (fun σ1 hG => RR_y rfl ?_)
  unfold M_jumps_55 M_jumps_67
  exact RR_y rfl (RR_then (K_jump C hG hd hp hl) (fun _ _ h2 => RR_ret h2))
theorem J_8x (C : Cx N X σ0 Λ ln cur start) {w : Int32} {lev sec kd0 : Nat} {ts : List AT} {B : List Int32} {σ : MS} (h : GR X σ0 ts B σ) (hr : isReg ts = false) (hp : Px σ0 cur start lev sec kd0) (hl : Lok σ0 lev (shp [120] ts (111 ||| (nI 1 <<< ((7 : Int32) &&& 31))) 0 [])) : RR (M_jumps N 8 w σ) (fun _ σ' => OutK X Λ σ0 ln cur start lev sec B (shp [120] ts (111 ||| (nI 1 <<< ((7 : Int32) &&& 31))) 0 []) σ') := by
  refine G_jumps C h (fun σ1 hG => RR_n (by decide) (RR_y (by rw [hr]; rfl) ?_))
  unfold M_jumps_55 M_jumps_67
  exact RR_n (by decide) (RR_then (K_jump C hG (by decide) hp hl) (fun _ _ h2 => RR_ret h2))
theorem J_8d (C : Cx N X σ0 Λ ln cur start) {w : Int32} {ts : List AT} {B : List Int32} {σ : MS} (h : GR X σ0 ts B σ) (hr : isReg ts = true) (hw : w &&& 3 = 3) : RR (M_jumps N 8 w σ) (fun _ σ' => OutS X Λ σ0 ln start (shp [100, 44, 106] ts w 0 []) B σ') := by
  refine G_jumps C h (fun σ1 hG => RR_n (by decide) (RR_n (by rw [hr]; decide) ?_))
  refine S_reg C (by decide) hG (fun j r σ2 hj hG2 => ?_) (fun F v σ1 hF hS => F_comma hF hS)
  refine S_comma C hG2 (fun r2 σ3 hG3 => ?_)
  refine S_rel C (k := fun x σ9 => cr (M_jumpBits x) (fun r10 => cl (M_word ((w ||| (nI j <<< ((7 : Int32) &&& 31))) ||| r10) σ9) (fun r11 σ12 => some ((0 : Int32), σ12)))) (by decide) hG3 (fun R rest v m d σ5 ev hC => RR_cr (M_jumpBits_eq _) ?_) (fun F v σ1 hF hS => RR_cr (M_jumpBits_eq _) (RR_then (FS_word hS _) (fun _ _ h2 => RR_ret h2)))
  refine RR_then (E_wx C (by decide) ev hC (by rw [numI_106, fitB_106, fitR_2]) ?_ (fun _ => ?_)) (fun _ _ h2 => RR_ret h2)
  · rw [low2r _ (rb_pos j hj _ (by decide)), hw]
  · rw [numI_106, rb_100]
/-! la -/
def aB (w off : Int32) : List Int32 := wB (w ||| (jush (off + 2048) 12 <<< ((12 : Int32) &&& 31))) 4 ++ wB (((19 ||| (((w >>> ((7 : Int32) &&& 31)) &&& 31) <<< ((7 : Int32) &&& 31))) ||| (((w >>> ((7 : Int32) &&& 31)) &&& 31) <<< ((15 : Int32) &&& 31))) ||| (off <<< ((20 : Int32) &&& 31))) 4
theorem shl_20 (x : Int32) : ((x <<< ((20 : Int32) &&& 31)) >>> ((20 : Int32) &&& 31)) <<< ((20 : Int32) &&& 31) = x <<< ((20 : Int32) &&& 31) := by
  apply Int32.toBitVec_inj.mp
  have e : (((20 : Int32) &&& 31).toBitVec.smod 32).toNat = 20 := by decide
  rw [Int32.toBitVec_shiftLeft, Int32.toBitVec_shiftRight, Int32.toBitVec_shiftLeft, BitVec.shiftLeft_eq', BitVec.shiftLeft_eq', BitVec.sshiftRight_eq', e]
  apply BitVec.eq_of_getLsbD_eq
  intro i hi
  rw [BitVec.getLsbD_shiftLeft, BitVec.getLsbD_shiftLeft, BitVec.getLsbD_sshiftRight, BitVec.getLsbD_shiftLeft]
  by_cases h : i < 20
  · simp [h]
  · simp [h, show 20 + (i - 20) = i by omega, hi, show ¬ 32 ≤ i - 20 by omega]
theorem la_d : ∀ j, j < 32 → ((((23 : Int32) ||| rb 100 (nI j)) >>> ((7 : Int32) &&& 31)) &&& 31) = nI j := by decide +kernel
def OutA (X : List Int32) (Λ : List Lb) (σ0 : MS) (ln start : Nat) (B : List Int32) (s : SR) (σ : MS) : Prop :=
  if s.1 ≠ 0 then (σ0.1 17 = 2 ∨ FS X σ0 (fl ln s.1) σ) else CK X σ0 ln (mdF (evV (η0 X Λ σ0 start) s.2.2.2.1).2.1 (evV (η0 X Λ σ0 start) s.2.2.2.1).2.2) (GR X σ0 s.2.2.2.2 (B ++ aB s.2.1 ((evV (η0 X Λ σ0 start) s.2.2.2.1).1 - σ0.1 19))) σ
theorem OutA_f {B : List Int32} (s : SR) (σ : MS) (k : Nat) (h : s.1 = k) (hk : k ≠ 0) (hF : FS X σ0 (fl ln k) σ) : OutA X Λ σ0 ln start B s σ := by
  unfold OutA
  rw [h, if_pos hk]
  exact Or.inr hF
theorem O_38 (C : Cx N X σ0 Λ ln cur start) {w : Int32} {ts : List AT} {B : List Int32} {σ : MS} (h : GR X σ0 ts B σ) : RR (M_others N 38 w σ) (fun _ σ' => OutA X Λ σ0 ln start B (shp [100, 44, 64] ts 23 0 []) σ') := by
  unfold M_others
  refine U_reg C OutA_f (by decide) h (fun j r σ1 hj he hG => RR_n (by decide) ?_) (fun F v σ1 hF hS => FS_others_c hF hS _ _ _ _)
  rw [he]
  refine U_comma C OutA_f hG (fun r2 σ2 he2 hG2 => RR_y (by decide) (RR_n (by decide) ?_))
  rw [he2]
  have fs : ∀ (F : Int32) (x : Int32) (σ3 : MS), FS X σ0 F σ3 → RR (M_others_94 N 38 (nI j) x σ3) (fun _ σ' => FS X σ0 F σ') := by
    intro F x σ3 h3
    unfold M_others_94 M_others_215 M_others_242 M_others_264 M_others_321
    exact RR_bnd (RR_y rfl (RR_then (FS_word h3 _) (fun _ _ h4 => RR_y rfl (RR_then (FS_word h4 _) (fun _ _ h5 => RR_n (by decide) (RR_ret h5))))))
  refine RR_then (G_expr C hG2) (fun v σ3 h3 => ?_)
  have es : shp [64] r2 (23 ||| rb 100 (nI j)) 0 [] = match cmpT r2 with
      | some x => (0, 23 ||| rb 100 (nI j), 64, x.1, x.2)
      | none => (1, 23 ||| rb 100 (nI j), 0, [], r2) := by
    rw [shp, if_neg (by decide), if_neg (by decide)]
    cases cmpT r2 <;> rfl
  rw [es]
  rcases h3 with ⟨e1, e2⟩ | ⟨R, rest, m, d, e1, e2, -, -, -, e6⟩
  · rw [e1]
    exact RR_imp (fs _ _ σ3 e2) (fun _ σ' h' => OutA_f _ _ 1 rfl (by decide) h')
  · rw [e1]
    have hev := evV_of e2
    rcases e6.cases with ⟨c1, c2, c3⟩ | ⟨c1, c2⟩
    · refine RR_imp (fs _ _ σ3 c3) (fun _ σ' h' => ?_)
      unfold OutA
      rw [if_neg (fun z => z rfl), hev]
      exact CK.y c1 c2 h'
    · rw [show σ3.1 19 = σ0.1 19 from c2.f.1 19 (by decide)]
      unfold M_others_94 M_others_215 M_others_242 M_others_264 M_others_321
      refine RR_bnd (RR_y rfl (RR_then (G_word c2 _) (fun _ σ4 h4 => RR_y rfl (RR_then (G_word h4 _) (fun _ σ5 h5 => RR_n (by decide) (RR_ret ?_))))))
      unfold OutA
      rw [if_neg (fun z => z rfl), hev]
      refine CK.n c1 ?_
      unfold aB
      rw [la_d j hj, rb_100, ← List.append_assoc]
      rw [shl_20] at h5
      exact h5
/-! fixed expressions -/
def fxF (η : Int32 → AT → Int32 × Bool) (lo : AT → Bool) (low high : Int32) (R : List XSt) : Nat := if R.any (lz lo) = true then 5 else if (evV η R).2.2 = true then 9 else if (evV η R).1 < low ∨ high < (evV η R).1 then 6 else 0
theorem fxF_le (η : Int32 → AT → Int32 × Bool) (lo : AT → Bool) (low high : Int32) (R : List XSt) : fxF η lo low high R ≤ 15 := by
  unfold fxF
  split
  · decide
  · split
    · decide
    · split <;> decide
/-- where all is fixed, nothing is missing -/
theorem fixed_m {base addr : Int32} (R : List XSt) (h : R.any (lz (loR X Λ)) = false) : (evR (ηR X Λ base addr start) R).2.1 = false := by
  have step : ∀ (V : EvS) (s : XSt), lz (loR X Λ) s = false → V.2.1 = false → (evs (ηR X Λ base addr start) V s).2.1 = false := by
    intro V s hs hV
    unfold evs
    split
    · rename_i ho
      show (V.2.1 || _) = false
      rw [hV, Bool.false_or]
      simp only [isOp, decide_eq_true_eq] at ho
      unfold lz at hs
      unfold ηR
      by_cases k3 : s.1 = 3
      · rw [if_pos k3]
      · rw [if_neg k3]
        by_cases k27 : s.1 = 2 ∨ s.1 = 7
        · rw [if_pos k27] at hs
          unfold loR at hs
          by_cases hd : s.2.nm = dotB
          · rw [if_pos hd] at hs; cases hs
          · rw [if_neg hd] at hs
            by_cases hr : 0 ≤ regR s.2.nm
            · rw [if_pos hr] at hs; cases hs
            · rw [if_neg hr] at hs
              by_cases k7 : s.1 = 7
              · rw [if_pos k7]
              · rw [if_neg k7, if_pos (by rcases k27 with z | z; exact z; exact absurd z k7), if_neg hr]
                cases hf : fnd X s.2.nm Λ 0 with
                | none => rw [hf] at hs; exact absurd (show true = false from hs) (by decide)
                | some i => rfl
        · rw [if_neg k27] at hs
          have : s.1 = 8 ∨ s.1 = 9 := by
            rcases ho with z | z | z | z | z
            · exact absurd z k3
            · exact absurd (Or.inl z) k27
            · exact absurd (Or.inr z) k27
            · exact Or.inl z
            · exact Or.inr z
          rw [decide_eq_true this] at hs
          cases hs
    · split
      · split
        · exact hV
        · exact hV
      · split
        · exact hV
        · exact hV
  have gen : ∀ (R : List XSt) (V : EvS), R.any (lz (loR X Λ)) = false → V.2.1 = false → (R.foldl (evs (ηR X Λ base addr start)) V).2.1 = false := by
    intro R
    induction R with
    | nil => intro V _ hV; exact hV
    | cons s R ih =>
      intro V hR hV
      simp only [List.any_cons, Bool.or_eq_false_iff] at hR
      exact ih _ hR.2 (step V s hR.1 hV)
  exact gen R _ h rfl
theorem G_fixed (C : Cx N X σ0 Λ ln cur start) {ts : List AT} {B : List Int32} {σ : MS} (h : GR X σ0 ts B σ) (low high : Int32) : RR (M_fixed N low high σ) (fun v σ' => (cmpT ts = none ∧ FS X σ0 (fl ln 1) σ') ∨ (∃ R rest, cmpT ts = some (R, rest) ∧ (fxF (η0 X Λ σ0 start) (loR X Λ) low high R = 0 → v = (evV (η0 X Λ σ0 start) R).1 ∧ GR X σ0 rest B σ') ∧ (fxF (η0 X Λ σ0 start) (loR X Λ) low high R ≠ 0 → σ0.1 17 = 0 → FS X σ0 (fl ln (fxF (η0 X Λ σ0 start) (loR X Λ) low high R)) σ') ∧ (σ0.1 17 = 0 ∨ fxF (η0 X Λ σ0 start) (loR X Λ) low high R = 0 ∨ GR X σ0 rest B σ' ∨ ∃ F, F ≠ 0 ∧ FS X σ0 F σ'))) := by
  unfold M_fixed M_fixed_60 M_fixed_66
  refine RR_then (G_expr C h) (fun v σ1 h1 => ?_)
  rcases h1 with ⟨e1, e2⟩ | ⟨R, rest, m, d, e1, e2, e3, e4, e5, e6⟩
  · have hF : fl ln 1 ≠ 0 := fl_ne0 C (by omega)
    refine RR_if (fun _ => RR_n (by rw [e2.2.2]; exact hF) (RR_ret (Or.inl ⟨e1, e2⟩))) (fun _ => RR_ret (Or.inl ⟨e1, e2⟩))
  · have hev := evV_of e2
    have h17 : σ1.1 17 = σ0.1 17 := e6.num (by decide)
    have hfx : fxF (η0 X Λ σ0 start) (loR X Λ) low high R = if R.any (lz (loR X Λ)) = true then 5 else if d = true then 9 else if v < low ∨ high < v then 6 else 0 := by
      unfold fxF
      rw [hev]
    rw [h17]
    refine RR_if (fun c => ?_) (fun c => RR_ret (Or.inr ⟨R, rest, e1, fun z => ?_, fun _ y => absurd y c, ?_⟩))
    · have hG : GR X σ0 rest B σ1 := by
        rcases e6.cases with ⟨c1, -, -⟩ | ⟨-, c2⟩
        · exact absurd (c.symm.trans c1) (by decide)
        · exact c2
      refine RR_y (by rw [hG.f.1 14 (by decide)]; exact C.2.2.2.2.2.2.2.2.2) ?_
      rw [e5, e4]
      have blm : ∀ (x : Int32) (k : Nat), x = nI k → k ≠ 0 → fxF (η0 X Λ σ0 start) (loR X Λ) low high R = k → RR (cl (M_blame x σ1) (fun _ σ2 => some (v, σ2))) (fun v σ' => (cmpT ts = none ∧ FS X σ0 (fl ln 1) σ') ∨ (∃ R rest, cmpT ts = some (R, rest) ∧ (fxF (η0 X Λ σ0 start) (loR X Λ) low high R = 0 → v = (evV (η0 X Λ σ0 start) R).1 ∧ GR X σ0 rest B σ') ∧ (fxF (η0 X Λ σ0 start) (loR X Λ) low high R ≠ 0 → σ0.1 17 = 0 → FS X σ0 (fl ln (fxF (η0 X Λ σ0 start) (loR X Λ) low high R)) σ') ∧ (σ0.1 17 = 0 ∨ fxF (η0 X Λ σ0 start) (loR X Λ) low high R = 0 ∨ GR X σ0 rest B σ' ∨ ∃ F, F ≠ 0 ∧ FS X σ0 F σ'))) := by
        intro x k hx hk hf
        refine RR_then (G_blame C hG.f hG.at9 x hx) (fun _ σ2 h2 => RR_ret (Or.inr ⟨R, rest, e1, fun z => absurd (hf.symm.trans z) hk, fun _ _ => by rw [hf]; exact h2.1, Or.inl c⟩))
      cases hl : R.any (lz (loR X Λ)) with
      | true => exact RR_n (by decide) (blm 5 5 rfl (by decide) (by rw [hfx, hl]; rfl))
      | false =>
        refine RR_y rfl ?_
        cases hd : d with
        | true => exact RR_n (by decide) (blm 9 9 rfl (by decide) (by rw [hfx, hl, hd]; rfl))
        | false =>
          rw [hl, hd, if_neg (by decide), if_neg (by decide)] at hfx
          refine RR_y rfl (RR_if (fun z => blm 6 6 rfl (by decide) (by rw [hfx, if_pos (Or.inl z)])) (fun z => RR_if (fun y => RR_ret ?_) (fun y => blm 6 6 rfl (by decide) (by rw [hfx, if_pos (Or.inr (Int32.not_le.mp y))]))))
          refine Or.inr ⟨R, rest, e1, fun _ => ⟨by rw [hev], hG⟩, fun x => absurd ?_ x, Or.inl c⟩
          rw [hfx, if_neg (fun x => by rcases x with x | x; exact z x; exact absurd y (Int32.not_le.mpr x))]
    · have hl : R.any (lz (loR X Λ)) = false := by
        cases hl : R.any (lz (loR X Λ)) with
        | false => rfl
        | true => rw [hfx, hl, if_pos rfl] at z; exact absurd z (by decide)
      have hd : d = false := by
        cases hd : d with
        | false => rfl
        | true => rw [hfx, hl, hd, if_neg (by decide), if_pos rfl] at z; exact absurd z (by decide)
      have hm : m = false := by
        have := fixed_m (X := X) (Λ := Λ) (start := start) (base := baseR σ0) (addr := σ0.1 19) R hl
        rw [e2] at this
        exact this
      refine ⟨by rw [hev], ?_⟩
      rcases e6.cases with ⟨-, c2, -⟩ | ⟨-, c2⟩
      · rw [hm, hd] at c2; exact absurd rfl c2
      · exact c2
    · rcases e6.cases with ⟨-, c2, c3⟩ | ⟨-, c2⟩
      · exact Or.inr (Or.inr (Or.inr ⟨_, fl_ne0 C ⟨by omega, mdF_le m d⟩, c3⟩))
      · exact Or.inr (Or.inr (Or.inl c2))
end
