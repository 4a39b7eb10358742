/-! ===== branches and jumps as shapes ===== -/
section
variable {N : Nat} {X : List Int32} {σ0 : MS} {Λ : List Lb} {ln cur start : Nat} {O : SR → MS → Prop}
theorem U_reg (C : Cx N X σ0 Λ ln cur start) (hO : ∀ (s : SR) (σ : MS) (k : Nat), s.1 = k → k ≠ 0 → FS X σ0 (fl ln k) σ → O s σ) {c : Int32} {sh : List Int32} {ts : List AT} {w q : Int32} {R : List XSt} {B : List Int32} {σ : MS} {k : Int32 → MS → Option (Int32 × MS)} (hc : c ∈ ([100, 97, 98, 115] : List Int32)) (h : GR X σ0 ts B σ)
    (good : ∀ j r σ1, j < 32 → shp (c :: sh) ts w q R = shp sh r (w ||| rb c (nI j)) q R → GR X σ0 r B σ1 → RR (k (nI j) σ1) (fun _ σ' => O (shp (c :: sh) ts w q R) σ'))
    (bad : ∀ F v σ1, F ≠ 0 → FS X σ0 F σ1 → RR (k v σ1) (fun _ σ' => FS X σ0 F σ')) : RR (cl (M_taken N σ) k) (fun _ σ' => O (shp (c :: sh) ts w q R) σ') := by
  have hp : ¬ (c = 44 ∨ c = 40 ∨ c = 41) ∧ isRM c = true := by
    simp only [List.mem_cons, List.not_mem_nil, or_false] at hc
    rcases hc with h | h | h | h <;> subst h <;> decide
  have es : shp (c :: sh) ts w q R = (if (regT c ts).1 = 0 then shp sh (regT c ts).2.2 (w ||| (regT c ts).2.1) q R else ((regT c ts).1, w, q, R, ts)) := by
    rw [shp, if_neg hp.1, if_pos hp.2]
  refine RR_then (G_taken C h) (fun v σ1 h1 => ?_)
  rcases h1 with ⟨e1, e2, e3⟩ | ⟨e1, e2, e3⟩
  · obtain ⟨j, j1, j2⟩ := tkR_n e1
    have er : regT c ts = (0, rb c (nI j), (tkR ts).2.2) := by
      unfold regT
      rw [if_neg (fun z => z e1), j2, if_neg (rb_pos j j1 c hc)]
    rw [e2, j2]
    refine good j _ σ1 j1 ?_ e3
    rw [es, er, if_pos rfl]
  · have er : regT c ts = ((tkR ts).1, 0, []) := by
      unfold regT
      rw [if_pos e1]
    refine RR_imp (bad _ v σ1 (fl_ne0 C ⟨by omega, tkR_le ts⟩) e3) (fun _ σ' h' => hO _ _ _ ?_ e1 h')
    rw [es, er, if_neg e1]
theorem U_comma (C : Cx N X σ0 Λ ln cur start) (hO : ∀ (s : SR) (σ : MS) (k : Nat), s.1 = k → k ≠ 0 → FS X σ0 (fl ln k) σ → O s σ) {sh : List Int32} {ts : List AT} {w q : Int32} {R : List XSt} {B : List Int32} {σ : MS} {k : MS → Option (Int32 × MS)} (h : GR X σ0 ts B σ) (good : ∀ r σ1, shp (44 :: sh) ts w q R = shp sh r w q R → GR X σ0 r B σ1 → RR (k σ1) (fun _ σ' => O (shp (44 :: sh) ts w q R) σ')) : RR (cl (M_comma N σ) (fun r1 σ2 => if r1 = 0 then some (0, σ2) else k σ2)) (fun _ σ' => O (shp (44 :: sh) ts w q R) σ') := by
  refine RR_then (G_comma C h) (fun v σ1 h1 => ?_)
  rcases h1 with ⟨a, r, e1, e2, e3⟩ | ⟨e1, e2, e3⟩
  · exact RR_n (by rw [e2]; decide) (good r σ1 (shp_ps (by decide) e1) e3)
  · exact RR_y e2 (RR_ret (hO _ _ 1 (by rw [shp_pn (by decide) e1]) (by decide) e3))
theorem U_behind (C : Cx N X σ0 Λ ln cur start) (hO : ∀ (s : SR) (σ : MS) (k : Nat), s.1 = k → k ≠ 0 → FS X σ0 (fl ln k) σ → O s σ) {c : Int32} {sh : List Int32} {ts : List AT} {w q : Int32} {R : List XSt} {B : List Int32} {σ : MS} {k : Int32 → MS → Option (Int32 × MS)} (hc : c ∈ ([100, 97, 98, 115] : List Int32)) (h : GR X σ0 ts B σ)
    (good : ∀ j r σ1, j < 32 → shp (44 :: c :: sh) ts w q R = shp sh r (w ||| rb c (nI j)) q R → GR X σ0 r B σ1 → RR (k (nI j) σ1) (fun _ σ' => O (shp (44 :: c :: sh) ts w q R) σ'))
    (bad : ∀ F v σ1, F ≠ 0 → FS X σ0 F σ1 → RR (k v σ1) (fun _ σ' => FS X σ0 F σ')) : RR (cl (M_behind N σ) k) (fun _ σ' => O (shp (44 :: c :: sh) ts w q R) σ') := by
  have hp : ¬ (c = 44 ∨ c = 40 ∨ c = 41) ∧ isRM c = true := by
    simp only [List.mem_cons, List.not_mem_nil, or_false] at hc
    rcases hc with h | h | h | h <;> subst h <;> decide
  refine RR_then (G_behind C h) (fun v σ1 h1 => ?_)
  cases h2 : tk1 44 ts with
  | none =>
    have eb : bhR ts = (1, 0, []) := by unfold bhR; rw [h2]
    rcases h1 with ⟨e1, e2, e3⟩ | ⟨e1, e3⟩
    · rw [eb] at e1; exact absurd e1 (by decide)
    · rw [eb] at e3
      exact RR_imp (bad _ v σ1 (fl_ne0 C (by omega)) e3) (fun _ σ' h' => hO _ _ 1 (by rw [shp_pn (by decide) h2]) (by decide) h')
  | some x =>
    obtain ⟨a, r⟩ := x
    have eb : bhR ts = tkR r := by unfold bhR; rw [h2]
    have es : shp (44 :: c :: sh) ts w q R = (if (regT c r).1 = 0 then shp sh (regT c r).2.2 (w ||| (regT c r).2.1) q R else ((regT c r).1, w, q, R, r)) := by
      rw [shp_ps (by decide) h2, shp, if_neg hp.1, if_pos hp.2]
    rw [eb] at h1
    rcases h1 with ⟨e1, e2, e3⟩ | ⟨e1, e3⟩
    · obtain ⟨j, j1, j2⟩ := tkR_n e1
      have er : regT c r = (0, rb c (nI j), (tkR r).2.2) := by
        unfold regT
        rw [if_neg (fun z => z e1), j2, if_neg (rb_pos j j1 c hc)]
      rw [e2, j2]
      refine good j _ σ1 j1 ?_ e3
      rw [es, er, if_pos rfl]
    · have er : regT c r = ((tkR r).1, 0, []) := by
        unfold regT
        rw [if_pos e1]
      refine RR_imp (bad _ v σ1 (fl_ne0 C ⟨by omega, tkR_le r⟩) e3) (fun _ σ' h' => hO _ _ _ ?_ e1 h')
      rw [es, er, if_neg e1]
/-- the level that a jump's item begins with, and its kind in the place -/
def LvR (mk w : Int32) : Nat := if len0 mk w = 2 then 0 else 1
def kdO (mk w : Int32) : Nat := if mk = 120 then 1 else if len0 mk w = 2 then 2 else 3
def lvM (mk : Int32) : Nat := if mk = 120 then 1 else 2
def Lv (σ0 : MS) (lev : Nat) (mk w : Int32) : Nat := if σ0.1 17 = 0 then LvR mk w else lev
def plv (σ0 : MS) (cur start sec : Nat) (mk w : Int32) : Int32 := if σ0.1 17 = 0 then nI (plc start (LvR mk w) sec (kdO mk w)) else σ0.2 2 cur
/-- where a statement's place stands -/
def Px (σ0 : MS) (cur start lev sec kd0 : Nat) : Prop := σ0.2 2 cur = nI (plc start lev sec kd0) ∧ lev < 4 ∧ sec < 2 ∧ kd0 < 4 ∧ (σ0.1 17 = 0 → lev = 0 ∧ kd0 = 0)
def OutK (X : List Int32) (Λ : List Lb) (σ0 : MS) (ln cur start lev sec : Nat) (B : List Int32) (s : SR) (σ : MS) : Prop := OutJ X Λ σ0 ln cur start (Lv σ0 lev s.2.2.1 s.2.1) (plv σ0 cur start sec s.2.2.1 s.2.1) s B σ
/-- past READ a jump has been read, and its level has only grown -/
def Lok (σ0 : MS) (lev : Nat) (s : SR) : Prop := σ0.1 17 ≠ 0 → s.1 = 0 ∧ LvR s.2.2.1 s.2.1 ≤ lev ∧ lev ≤ lvM s.2.2.1
theorem OutK_f {lev sec : Nat} {B : List Int32} (s : SR) (σ : MS) (k : Nat) (h : s.1 = k) (hk : k ≠ 0) (hF : FS X σ0 (fl ln k) σ) : OutK X Λ σ0 ln cur start lev sec B s σ := by
  unfold OutK OutJ
  rw [h, if_pos hk]
  exact Or.inr hF
theorem shp_1 {mk w : Int32} {ts : List AT} (hmk : mk = 120 ∨ mk = 122 ∨ mk = 116) : shp [mk] ts w 0 [] = match cmpT ts with
    | some x => (0, w, mk, x.1, x.2)
    | none => (1, w, 0, [], ts) := by
  have hp : ¬ (mk = 44 ∨ mk = 40 ∨ mk = 41) ∧ isRM mk = false := by rcases hmk with h | h | h <;> subst h <;> decide
  rw [shp, if_neg hp.1, if_neg (by rw [hp.2]; decide)]
  cases cmpT ts <;> rfl
theorem K_of {mk w1 : Int32} {ts : List AT} {lev sec : Nat} {B : List Int32} {σ : MS} (hmk : mk = 120 ∨ mk = 122 ∨ mk = 116) (h : OutJ X Λ σ0 ln cur start (Lv σ0 lev mk w1) (plv σ0 cur start sec mk w1) (shp [mk] ts w1 0 []) B σ) : OutK X Λ σ0 ln cur start lev sec B (shp [mk] ts w1 0 []) σ := by
  rw [shp_1 hmk] at h ⊢
  unfold OutK
  cases hc : cmpT ts with
  | none =>
    rw [hc] at h
    unfold OutJ at h ⊢
    rw [if_pos (show (1 : Nat) ≠ 0 by decide)] at h ⊢
    exact h
  | some x =>
    rw [hc] at h
    exact h
theorem Lok_1 {mk w1 : Int32} {ts : List AT} {lev : Nat} (hmk : mk = 120 ∨ mk = 122 ∨ mk = 116) (h : Lok σ0 lev (shp [mk] ts w1 0 [])) : σ0.1 17 ≠ 0 → LvR mk w1 ≤ lev ∧ lev ≤ lvM mk := by
  intro z
  have := h z
  rw [shp_1 hmk] at this
  cases hc : cmpT ts with
  | none => rw [hc] at this; exact absurd (show (1 : Nat) = 0 from this.1) (by decide)
  | some x => rw [hc] at this; exact this.2
/-- a branch without a short form -/
theorem B_t (C : Cx N X σ0 Λ ln cur start) {w w1 a b : Int32} {lev sec kd0 : Nat} {ts : List AT} {B : List Int32} {σ : MS} (h : GR X σ0 ts B σ) (hp : Px σ0 cur start lev sec kd0) (hw3 : w1 &&& 3 = 3) (hw1 : w1 = (w ||| (a <<< ((15 : Int32) &&& 31))) ||| (b <<< ((20 : Int32) &&& 31))) (hl : Lok σ0 lev (shp [116] ts w1 0 [])) : RR (M_branch N w a b 0 σ) (fun _ σ' => OutK X Λ σ0 ln cur start lev sec B (shp [116] ts w1 0 []) σ') := by
  obtain ⟨p1, p2, p3, p4, p5⟩ := hp
  have e4 : len0 116 w1 = 4 := len_w (by decide) hw3
  have eL : LvR 116 w1 = 1 := by unfold LvR; rw [e4]; rfl
  have ek : kdO 116 w1 = 3 := by unfold kdO; rw [e4]; rfl
  have hl2 := Lok_1 (by simp) hl
  rw [eL] at hl2
  have hm2 : lvM 116 = 2 := rfl
  refine RR_imp (J_branch C (mk := 116) (w1 := w1) (test := false) (L := Lv σ0 lev 116 w1) (pl := plv σ0 cur start sec 116 w1) h (Or.inr rfl) p1 p2 p3 p4 (fun z => ⟨(p5 z).1, (p5 z).2, ?_⟩) (fun z => ?_) ?_ ?_ hw1 (fun z => ?_)) (fun _ σ' h' => K_of (by simp) h')
  · unfold Lv; rw [if_pos z, eL]; rfl
  · unfold Lv; rw [if_neg z]
  · unfold Lv
    split
    · rw [eL]; decide
    · rename_i z; have := hl2 z; omega
  · unfold plv
    rw [eL, ek]
    rfl
  · unfold Lv at z
    split at z
    · rw [eL] at z; exact absurd z (by decide)
    · rename_i y; have := hl2 y; omega
theorem zw_1 : ∀ j, j < 32 → ∀ w ∈ ([99, 4195] : List Int32), ((((w ||| rb 97 (nI j)) >>> ((15 : Int32) &&& 31)) &&& 24 = 8) ↔ (8 ≤ j ∧ j ≤ 15)) ∧ (w ||| rb 97 (nI j)) &&& 3 = 3 ∧ ((w >>> ((12 : Int32) &&& 31)) &&& 7) < 2 := by decide +kernel
theorem zw_2 : ∀ j, j < 32 → 8 ≤ j → j ≤ 15 → ∀ w ∈ ([99, 4195] : List Int32), shW 122 (w ||| rb 97 (nI j)) = (1 ||| ((if (w >>> ((12 : Int32) &&& 31)) &&& 7 = 0 then (6 : Int32) else 7) <<< ((13 : Int32) &&& 31))) ||| (((nI j - 8) &&& 7) <<< ((7 : Int32) &&& 31)) := by decide +kernel
theorem or_z (w : Int32) : w ||| ((0 : Int32) <<< ((20 : Int32) &&& 31)) = w := by
  rw [show ((0 : Int32) <<< ((20 : Int32) &&& 31)) = 0 from by decide]
  exact Int32.or_zero
theorem or_z15 (w : Int32) : w ||| ((0 : Int32) <<< ((15 : Int32) &&& 31)) = w := by
  rw [show ((0 : Int32) <<< ((15 : Int32) &&& 31)) = 0 from by decide]
  exact Int32.or_zero
/-- a branch on one register and zero -/
theorem B_z (C : Cx N X σ0 Λ ln cur start) {w : Int32} {j lev sec kd0 : Nat} {ts : List AT} {B : List Int32} {σ : MS} (h : GR X σ0 ts B σ) (hj : j < 32) (hw : w ∈ ([99, 4195] : List Int32)) (hp : Px σ0 cur start lev sec kd0) (hl : Lok σ0 lev (shp [122] ts (w ||| rb 97 (nI j)) 0 [])) : RR (M_branch N w (nI j) 0 (b2 (decide (8 ≤ j ∧ j ≤ 15))) σ) (fun _ σ' => OutK X Λ σ0 ln cur start lev sec B (shp [122] ts (w ||| rb 97 (nI j)) 0 []) σ') := by
  obtain ⟨p1, p2, p3, p4, p5⟩ := hp
  obtain ⟨z1, z2, z3⟩ := zw_1 j hj w hw
  have e4 : len0 122 (w ||| rb 97 (nI j)) = if 8 ≤ j ∧ j ≤ 15 then 2 else 4 := by
    unfold len0
    rw [if_neg (by decide), if_neg (by decide), if_pos rfl]
    by_cases c : 8 ≤ j ∧ j ≤ 15
    · rw [if_pos c, if_pos (z1.mpr c)]
    · rw [if_neg c, if_neg (fun y => c (z1.mp y))]
  have eL : LvR 122 (w ||| rb 97 (nI j)) = if decide (8 ≤ j ∧ j ≤ 15) = true then 0 else 1 := by
    unfold LvR
    rw [e4]
    by_cases c : 8 ≤ j ∧ j ≤ 15
    · rw [if_pos c, decide_eq_true c]; rfl
    · rw [if_neg c, decide_eq_false c]; rfl
  have ek : kdO 122 (w ||| rb 97 (nI j)) = if decide (8 ≤ j ∧ j ≤ 15) = true then 2 else 3 := by
    unfold kdO
    rw [e4, if_neg (by decide)]
    by_cases c : 8 ≤ j ∧ j ≤ 15
    · rw [if_pos c, decide_eq_true c]; rfl
    · rw [if_neg c, decide_eq_false c]; rfl
  have hl2 := Lok_1 (by simp) hl
  rw [eL] at hl2
  have hm2 : lvM 122 = 2 := rfl
  refine RR_imp (J_branch C (mk := 122) (w1 := w ||| rb 97 (nI j)) (test := decide (8 ≤ j ∧ j ≤ 15)) (L := Lv σ0 lev 122 (w ||| rb 97 (nI j))) (pl := plv σ0 cur start sec 122 (w ||| rb 97 (nI j))) h (Or.inl rfl) p1 p2 p3 p4 (fun z => ⟨(p5 z).1, (p5 z).2, ?_⟩) (fun z => ?_) ?_ ?_ ?_ (fun z => ?_)) (fun _ σ' h' => K_of (by simp) h')
  · unfold Lv; rw [if_pos z, eL]
  · unfold Lv; rw [if_neg z]
  · unfold Lv
    split
    · rw [eL]; split <;> decide
    · rename_i z; have := hl2 z; omega
  · unfold plv
    rw [eL, ek]
  · rw [rb_97, or_z]
  · have c : 8 ≤ j ∧ j ≤ 15 := by
      refine Decidable.not_not.mp (fun c => ?_)
      rw [decide_eq_false c, if_neg (by decide)] at eL hl2
      unfold Lv at z
      split at z
      · rw [eL] at z; exact absurd z (by decide)
      · rename_i y; have := hl2 y; omega
    exact zw_2 j hj c.1 c.2 w hw
theorem FS_branches_25 (C : Cx N X σ0 Λ ln cur start) {F : Int32} {σ : MS} (hF : F ≠ 0) (h : FS X σ0 F σ) (x1 x2 x3 t0 : Int32) : RR (M_branches_25 N x1 x2 x3 t0 σ) (fun _ σ' => FS X σ0 F σ') := by
  unfold M_branches_25
  exact F_comma hF h
theorem FS_branches_r (C : Cx N X σ0 Λ ln cur start) {F : Int32} {σ : MS} (hF : F ≠ 0) (h : FS X σ0 F σ) (x1 x2 r1 : Int32) : RR (if x1 = 7 then M_branches_17 N x1 x2 r1 σ else (if x1 = 37 then M_branches_17 N x1 x2 r1 σ else M_branches_25 N x1 x2 r1 0 σ)) (fun _ σ' => FS X σ0 F σ') := by
  unfold M_branches_17
  exact RR_if (fun _ => RR_then (FS_behind C hF h) (fun _ _ h2 => FS_branches_25 C hF h2 _ _ _ _)) (fun _ => RR_if (fun _ => RR_then (FS_behind C hF h) (fun _ _ h2 => FS_branches_25 C hF h2 _ _ _ _)) (fun _ => FS_branches_25 C hF h _ _ _ _))
theorem B_7 (C : Cx N X σ0 Λ ln cur start) {w : Int32} {lev sec kd0 : Nat} {ts : List AT} {B : List Int32} {σ : MS} (h : GR X σ0 ts B σ) (hp : Px σ0 cur start lev sec kd0) (hw : w &&& 3 = 3) (hl : Lok σ0 lev (shp [97, 44, 98, 44, 116] ts w 0 [])) : RR (M_branches N 7 w σ) (fun _ σ' => OutK X Λ σ0 ln cur start lev sec B (shp [97, 44, 98, 44, 116] ts w 0 []) σ') := by
  unfold M_branches
  refine U_reg C OutK_f (by decide) h (fun j r σ1 hj he hG => RR_y rfl ?_) (fun F v σ1 hF hS => FS_branches_r C hF hS _ _ _)
  rw [he] at hl ⊢
  unfold M_branches_17
  refine U_behind C OutK_f (by decide) hG (fun j2 r2 σ2 hj2 he2 hG2 => ?_) (fun F v σ1 hF hS => FS_branches_25 C hF hS _ _ _ _)
  rw [he2] at hl ⊢
  unfold M_branches_25
  refine U_comma C OutK_f hG2 (fun r3 σ3 he3 hG3 => RR_n (by decide) ?_)
  rw [he3] at hl ⊢
  unfold M_branches_68 M_branches_69 M_branches_83 M_branches_105
  refine RR_y rfl (RR_then (B_t C hG3 hp ?_ ?_ hl) (fun _ _ h2 => RR_ret h2))
  · rw [low2r _ (rb_pos j2 hj2 _ (by decide)), low2r _ (rb_pos j hj _ (by decide)), hw]
  · rw [rb_97, rb_98]
theorem or_sw (w a b : Int32) : (w ||| a) ||| b = (w ||| b) ||| a := by ac_rfl
theorem B_37 (C : Cx N X σ0 Λ ln cur start) {w : Int32} {lev sec kd0 : Nat} {ts : List AT} {B : List Int32} {σ : MS} (h : GR X σ0 ts B σ) (hp : Px σ0 cur start lev sec kd0) (hw : w &&& 3 = 3) (hl : Lok σ0 lev (shp [98, 44, 97, 44, 116] ts w 0 [])) : RR (M_branches N 37 w σ) (fun _ σ' => OutK X Λ σ0 ln cur start lev sec B (shp [98, 44, 97, 44, 116] ts w 0 []) σ') := by
  unfold M_branches
  refine U_reg C OutK_f (by decide) h (fun j r σ1 hj he hG => RR_n (by decide) (RR_y rfl ?_)) (fun F v σ1 hF hS => FS_branches_r C hF hS _ _ _)
  rw [he] at hl ⊢
  unfold M_branches_17
  refine U_behind C OutK_f (by decide) hG (fun j2 r2 σ2 hj2 he2 hG2 => ?_) (fun F v σ1 hF hS => FS_branches_25 C hF hS _ _ _ _)
  rw [he2] at hl ⊢
  unfold M_branches_25
  refine U_comma C OutK_f hG2 (fun r3 σ3 he3 hG3 => RR_n (by decide) ?_)
  rw [he3] at hl ⊢
  unfold M_branches_68 M_branches_69 M_branches_105
  refine RR_n (by decide) (RR_n (by decide) (RR_then (B_t C hG3 hp ?_ ?_ hl) (fun _ _ h2 => RR_ret h2)))
  · rw [low2r _ (rb_pos j2 hj2 _ (by decide)), low2r _ (rb_pos j hj _ (by decide)), hw]
  · rw [rb_97, rb_98]; exact or_sw _ _ _
theorem B_36 (C : Cx N X σ0 Λ ln cur start) {w : Int32} {lev sec kd0 : Nat} {ts : List AT} {B : List Int32} {σ : MS} (h : GR X σ0 ts B σ) (hp : Px σ0 cur start lev sec kd0) (hw : w &&& 3 = 3) (hl : Lok σ0 lev (shp [98, 44, 116] ts w 0 [])) : RR (M_branches N 36 w σ) (fun _ σ' => OutK X Λ σ0 ln cur start lev sec B (shp [98, 44, 116] ts w 0 []) σ') := by
  unfold M_branches
  refine U_reg C OutK_f (by decide) h (fun j r σ1 hj he hG => RR_n (by decide) (RR_n (by decide) ?_)) (fun F v σ1 hF hS => FS_branches_r C hF hS _ _ _)
  rw [he] at hl ⊢
  unfold M_branches_25
  refine U_comma C OutK_f hG (fun r3 σ3 he3 hG3 => RR_n (by decide) ?_)
  rw [he3] at hl ⊢
  unfold M_branches_68 M_branches_69 M_branches_105
  refine RR_n (by decide) (RR_n (by decide) (RR_then (B_t C hG3 hp ?_ ?_ hl) (fun _ _ h2 => RR_ret h2)))
  · rw [low2r _ (rb_pos j hj _ (by decide)), hw]
  · rw [rb_98, or_z15]
theorem B_35z (C : Cx N X σ0 Λ ln cur start) {w : Int32} {lev sec kd0 : Nat} {ts : List AT} {B : List Int32} {σ : MS} (h : GR X σ0 ts B σ) (hp : Px σ0 cur start lev sec kd0) (hw : w ∈ ([99, 4195] : List Int32)) (hl : Lok σ0 lev (shp [97, 44, 122] ts w 0 [])) : RR (M_branches N 35 w σ) (fun _ σ' => OutK X Λ σ0 ln cur start lev sec B (shp [97, 44, 122] ts w 0 []) σ') := by
  unfold M_branches
  refine U_reg C OutK_f (by decide) h (fun j r σ1 hj he hG => RR_n (by decide) (RR_n (by decide) ?_)) (fun F v σ1 hF hS => FS_branches_r C hF hS _ _ _)
  rw [he] at hl ⊢
  unfold M_branches_25
  refine U_comma C OutK_f hG (fun r3 σ3 he3 hG3 => RR_y rfl ?_)
  rw [he3] at hl ⊢
  have key := B_z C hG3 hj hw hp hl
  unfold M_branches_68 M_branches_69 M_branches_83 M_branches_105
  refine RR_n (Int32.not_le.mpr (zw_1 j hj w hw).2.2) (RR_if (fun c => ?_) (fun c => RR_if (fun d => ?_) (fun d => ?_)))
  · rw [show (7 : Int32) = nI 7 from rfl, nI_leI (by omega) (by omega)] at c
    rw [decide_eq_false (by omega)] at key
    exact RR_n (by decide) (RR_y rfl (RR_then key (fun _ _ h2 => RR_ret h2)))
  · rw [show (16 : Int32) = nI 16 from rfl, nI_leI (by omega) (by omega)] at d
    rw [decide_eq_false (by omega)] at key
    exact RR_n (by decide) (RR_y rfl (RR_then key (fun _ _ h2 => RR_ret h2)))
  · rw [show (7 : Int32) = nI 7 from rfl, nI_leI (by omega) (by omega)] at c
    rw [show (16 : Int32) = nI 16 from rfl, nI_leI (by omega) (by omega)] at d
    rw [decide_eq_true (by omega)] at key
    exact RR_n (by decide) (RR_y rfl (RR_then key (fun _ _ h2 => RR_ret h2)))
theorem B_35t (C : Cx N X σ0 Λ ln cur start) {w : Int32} {lev sec kd0 : Nat} {ts : List AT} {B : List Int32} {σ : MS} (h : GR X σ0 ts B σ) (hp : Px σ0 cur start lev sec kd0) (hw : w &&& 3 = 3) (hw2 : 2 ≤ ((w >>> ((12 : Int32) &&& 31)) &&& 7)) (hl : Lok σ0 lev (shp [97, 44, 116] ts w 0 [])) : RR (M_branches N 35 w σ) (fun _ σ' => OutK X Λ σ0 ln cur start lev sec B (shp [97, 44, 116] ts w 0 []) σ') := by
  unfold M_branches
  refine U_reg C OutK_f (by decide) h (fun j r σ1 hj he hG => RR_n (by decide) (RR_n (by decide) ?_)) (fun F v σ1 hF hS => FS_branches_r C hF hS _ _ _)
  rw [he] at hl ⊢
  unfold M_branches_25
  refine U_comma C OutK_f hG (fun r3 σ3 he3 hG3 => RR_y rfl (RR_y hw2 ?_))
  rw [he3] at hl ⊢
  unfold M_branches_68 M_branches_69 M_branches_83 M_branches_105
  refine RR_n (by decide) (RR_y rfl (RR_then (B_t C hG3 hp ?_ ?_ hl) (fun _ _ h2 => RR_ret h2)))
  · rw [low2r _ (rb_pos j hj _ (by decide)), hw]
  · rw [rb_97, or_z]
end
