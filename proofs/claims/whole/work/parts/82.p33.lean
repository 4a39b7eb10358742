/-! ===== jumps and branches: their bytes ===== -/
def shW (mk w : Int32) : Int32 := if mk = 120 then (if (w >>> ((7 : Int32) &&& 31)) &&& 31 = 1 then 8193 else 40961) else (1 ||| ((6 ||| ((w >>> ((12 : Int32) &&& 31)) &&& 1)) <<< ((13 : Int32) &&& 31))) ||| (((w >>> ((15 : Int32) &&& 31)) &&& 7) <<< ((7 : Int32) &&& 31))
def jB (mk w off : Int32) (L : Nat) : List Int32 := if L = 2 then wB ((w ^^^ 4096) ||| scat 116 8) 4 ++ wB (111 ||| scat (jmk mk L) (off - 4)) 4 else if L = 1 then wB (w ||| scat (jmk mk L) off) 4 else wB (shW mk w ||| scat (jmk mk L) off) 2
def ckJ (η : Int32 → AT → Int32 × Bool) (a mk : Int32) (L : Nat) (R : List XSt) : Nat := ckF (evV η R).2.1 (evV η R).2.2 (fitB (jmk mk L) (jcnt ((evV η R).1 - a) L))
def jgR (η : Int32 → AT → Int32 × Bool) (σ0 : MS) (mk : Int32) (L : Nat) (R : List XSt) : Bool := jgr σ0 mk L (evV η R).2.1 (evV η R).2.2 ((evV η R).1 - σ0.1 19)
def OutJ (X : List Int32) (Λ : List Lb) (σ0 : MS) (ln cur start L : Nat) (pl : Int32) (s : SR) (B : List Int32) (σ : MS) : Prop :=
  if s.1 ≠ 0 then (σ0.1 17 = 2 ∨ FS X σ0 (fl ln s.1) σ) else CK X σ0 ln (ckJ (η0 X Λ σ0 start) (σ0.1 19) s.2.2.1 L s.2.2.2.1) (fun σ => ∃ Bs, GR X (jm σ0 cur pl (b2 (jgR (η0 X Λ σ0 start) σ0 s.2.2.1 L s.2.2.2.1))) s.2.2.2.2 (B ++ Bs) σ ∧ Bs.length = 2 * 2 ^ L ∧ Bs = jB s.2.2.1 s.2.1 ((evV (η0 X Λ σ0 start) s.2.2.2.1).1 - σ0.1 19) L) σ
theorem xor_or (w b : Int32) {c : Int32} (k : Nat) (hk : (c.toBitVec.smod 32).toNat = k) (h : 13 ≤ k) : (w ||| b <<< c) ^^^ 4096 = (w ^^^ 4096) ||| b <<< c := by
  apply Int32.toBitVec_inj.mp
  rw [Int32.toBitVec_xor, Int32.toBitVec_or, Int32.toBitVec_or, Int32.toBitVec_xor, Int32.toBitVec_shiftLeft, BitVec.shiftLeft_eq', hk]
  apply BitVec.eq_of_getLsbD_eq
  intro i hi
  rw [BitVec.getLsbD_xor, BitVec.getLsbD_or, BitVec.getLsbD_or, BitVec.getLsbD_xor, BitVec.getLsbD_shiftLeft]
  by_cases h12 : i = 12
  · subst h12
    simp [show (12 : Nat) < k by omega]
  · have hm : (4096 : Int32).toBitVec.getLsbD i = false := by
      rw [BitVec.getLsbD, show (4096 : Int32).toBitVec.toNat = 2 ^ 12 from by decide, Nat.testBit_two_pow]
      simp
      omega
    rw [hm]
    simp
section
variable {N : Nat} {X : List Int32} {σ0 : MS} {Λ : List Lb} {ln cur start : Nat}
theorem jm_pl {σ : MS} {pl g : Int32} {r : List AT} {B : List Int32} (h : GR X (jm σ0 cur pl g) r B σ) : σ.2 2 cur = pl := by
  rw [h.f.2 2 (by decide)]
  show (if 2 = 2 then upd (σ0.2 2) cur pl else σ0.2 2) cur = pl
  rw [if_pos rfl, pk_us]
theorem jm_18 {σ : MS} {pl g : Int32} {r : List AT} {B : List Int32} (h : GR X (jm σ0 cur pl g) r B σ) : σ.1 18 = σ0.1 18 := by
  rw [h.f.1 18 (by decide)]
  rfl
theorem J_go (C : Cx N X σ0 Λ ln cur start) {mk w1 : Int32} {kd least L lev sec kd0 : Nat} {pl : Int32} {ts : List AT} {B : List Int32} {σ : MS} {k : Int32 → MS → Option (Int32 × MS)} (h : GR X σ0 ts B σ) (hp : σ0.2 2 cur = nI (plc start lev sec kd0)) (h1 : lev < 4) (h2 : sec < 2) (h3 : kd0 < 4) (hkd : kd < 4) (hle : least < 2) (hrd : σ0.1 17 = 0 → lev = 0 ∧ kd0 = 0 ∧ L = least) (hnr : σ0.1 17 ≠ 0 → L = lev) (hJ : Jk mk (nI kd) L) (hpl : pl = if σ0.1 17 = 0 then nI (plc start least sec kd) else σ0.2 2 cur)
    (good : ∀ (x g : Int32) (rest : List AT) (σ2 : MS), GR X (jm σ0 cur pl g) rest B σ2 → M_level σ2 = some (nI L) → RR (k x σ2) (fun _ σ' => ∃ Bs, GR X (jm σ0 cur pl g) rest (B ++ Bs) σ' ∧ Bs.length = 2 * 2 ^ L ∧ Bs = jB mk w1 x L))
    (bad : ∀ F v σ1, F ≠ 0 → FS X σ0 F σ1 → RR (k v σ1) (fun _ σ' => FS X σ0 F σ')) : RR (cl (M_target N (nI kd) (nI least) σ) k) (fun _ σ' => OutJ X Λ σ0 ln cur start L pl (shp [mk] ts w1 0 []) B σ') := by
  have hs := C.2.2.2.2.2.2.2.2.1
  have hL : L < 4 := by rcases hJ with ⟨-, -, z⟩ | ⟨-, -, z⟩ <;> omega
  have hmk : ¬ (mk = 44 ∨ mk = 40 ∨ mk = 41) ∧ isRM mk = false := by
    rcases hJ with ⟨z, -, -⟩ | ⟨z | z, -, -⟩ <;> subst z <;> decide
  refine RR_then (G_target C h hp hs h1 h2 h3 hkd hle hrd hnr hJ) (fun x σ2 hT => ?_)
  rw [← hpl] at hT
  simp only [shp]
  rw [if_neg hmk.1, if_neg (by rw [hmk.2]; decide)]
  rcases hT with ⟨e1, e2⟩ | ⟨R, rest, v, m, d, e1, e2, e3⟩
  · rw [e1]
    refine RR_imp (bad _ x σ2 (fl_ne0 C (by omega)) e2) (fun _ σ' h' => ?_)
    unfold OutJ
    rw [if_pos (show (1 : Nat) ≠ 0 by decide)]
    exact Or.inr h'
  · rw [e1]
    simp only [List.nil_append]
    have hck : ckJ (η0 X Λ σ0 start) (σ0.1 19) mk L R = ckF m d (fitB (jmk mk L) (jcnt (v - σ0.1 19) L)) := by
      unfold ckJ; rw [e2]
    have hg : jgR (η0 X Λ σ0 start) σ0 mk L R = jgr σ0 mk L m d (v - σ0.1 19) := by
      unfold jgR; rw [e2]
    rcases e3.cases with ⟨c1, c2, c3⟩ | ⟨c1, c2, c3⟩
    · refine RR_imp (bad _ x σ2 (fl_ne0 C ⟨by omega, ckF_le _ _ _⟩) c3) (fun _ σ' h' => ?_)
      unfold OutJ
      rw [if_neg (fun z => z rfl), hck]
      exact CK.y c1 c2 h'
    · have hlv : M_level σ2 = some (nI L) := by
        refine M_level_eq (cur := cur) (start := start) (sec := sec) (kd := if σ0.1 17 = 0 then kd else kd0) ((jm_18 c3).trans C.2.2.2.2.2.1) C.2.2.2.2.2.2.1 ?_ hs hL h2 (by split <;> omega)
        rw [jm_pl c3, hpl]
        by_cases hm : σ0.1 17 = 0
        · rw [if_pos hm, if_pos hm, (hrd hm).2.2]
        · rw [if_neg hm, if_neg hm, hnr hm]; exact hp
      refine RR_imp (good x _ rest σ2 c3 hlv) (fun _ σ' h' => ?_)
      unfold OutJ
      rw [if_neg (fun z => z rfl), hck, hg]
      refine CK.n c1 ?_
      obtain ⟨Bs, b1, b2', b3⟩ := h'
      refine ⟨Bs, b1, b2', ?_⟩
      rw [e2, ← c2]
      exact b3
theorem J_jump (C : Cx N X σ0 Λ ln cur start) {L lev sec kd0 dd : Nat} {pl : Int32} {ts : List AT} {B : List Int32} {σ : MS} (h : GR X σ0 ts B σ) (hd : dd < 2) (hp : σ0.2 2 cur = nI (plc start lev sec kd0)) (h1 : lev < 4) (h2 : sec < 2) (h3 : kd0 < 4) (hrd : σ0.1 17 = 0 → lev = 0 ∧ kd0 = 0 ∧ L = 0) (hnr : σ0.1 17 ≠ 0 → L = lev) (hL : L ≤ 1) (hpl : pl = if σ0.1 17 = 0 then nI (plc start 0 sec 1) else σ0.2 2 cur) : RR (M_jump N (nI dd) σ) (fun _ σ' => OutJ X Λ σ0 ln cur start L pl (shp [120] ts (111 ||| (nI dd <<< ((7 : Int32) &&& 31))) 0 []) B σ') := by
  unfold M_jump
  refine J_go C (mk := 120) (kd := 1) (least := 0) (lev := lev) (sec := sec) (kd0 := kd0) h hp h1 h2 h3 (by decide) (by decide) hrd hnr (Or.inl ⟨rfl, rfl, hL⟩) hpl (fun x g rest σ2 hG hlv => RR_cr hlv ?_) (fun F v σ1 hF hS => ?_)
  · unfold M_jump_26 M_jump_57
    rcases (show L = 0 ∨ L = 1 by omega) with e | e <;> subst e
    · refine RR_y rfl ?_
      have hd2 : dd = 0 ∨ dd = 1 := by omega
      rcases hd2 with e | e <;> subst e
      · refine RR_n (by decide) (RR_cr (M_shortJump_eq _) (RR_then (G_half hG _) (fun _ σ3 h3 => RR_ret ⟨_, h3, wB_len _ _, rfl⟩)))
      · refine RR_y rfl (RR_cr (M_shortJump_eq _) (RR_then (G_half hG _) (fun _ σ3 h3 => RR_ret ⟨_, h3, wB_len _ _, rfl⟩)))
    · exact RR_n (by decide) (RR_cr (M_jumpBits_eq _) (RR_then (G_word hG _) (fun _ σ3 h3 => RR_ret ⟨_, h3, wB_len _ _, rfl⟩)))
  · obtain ⟨lv, hlv⟩ := FS_level C hS
    unfold M_jump_26 M_jump_57
    exact RR_cr hlv (RR_if (fun _ => RR_if (fun _ => RR_cr (M_shortJump_eq _) (RR_then (FS_half hS _) (fun _ _ h2 => RR_ret h2))) (fun _ => RR_cr (M_shortJump_eq _) (RR_then (FS_half hS _) (fun _ _ h2 => RR_ret h2)))) (fun _ => RR_cr (M_jumpBits_eq _) (RR_then (FS_word hS _) (fun _ _ h2 => RR_ret h2))))
theorem FS_branch_91 {F : Int32} {σ : MS} (h : FS X σ0 F σ) (x1 x5 x6 x7 : Int32) : RR (M_branch_91 N x1 x5 x6 x7 σ) (fun _ σ' => FS X σ0 F σ') := by
  have e111 : ∀ σ2, FS X σ0 F σ2 → RR (M_branch_111 N x1 x5 x6 x7 σ2) (fun _ σ' => FS X σ0 F σ') := fun σ2 h2 => by
    unfold M_branch_111
    exact RR_if (fun _ => RR_cr (M_branchBits_eq _) (RR_then (FS_word h2 _) (fun _ σ3 h3 => RR_cr (M_jumpBits_eq _) (RR_then (FS_word h3 _) (fun _ _ h4 => RR_ret h4))))) (fun _ => RR_ret h2)
  unfold M_branch_91
  exact RR_if (fun _ => RR_cr (M_branchBits_eq _) (RR_then (FS_word h _) (fun _ σ2 h2 => e111 σ2 h2))) (fun _ => e111 σ h)
theorem FS_branch_r (C : Cx N X σ0 Λ ln cur start) {F : Int32} {σ : MS} (h : FS X σ0 F σ) (x1 x2 x3 r1 : Int32) : RR (cr (M_level σ) (fun r3 => bnd ((x2 <<< ((15 : Int32) &&& 31)) ||| (x3 <<< ((20 : Int32) &&& 31))) (fun y4 => (if r3 = 0 then (if ((x1 >>> ((12 : Int32) &&& 31)) &&& 7) = 0 then M_branch_67 N x1 x2 r1 r3 y4 1 6 σ else M_branch_67 N x1 x2 r1 r3 y4 1 7 σ) else M_branch_91 N x1 r1 r3 y4 σ)))) (fun _ σ' => FS X σ0 F σ') := by
  obtain ⟨lv, hlv⟩ := FS_level C h
  unfold M_branch_67
  exact RR_cr hlv (RR_bnd (RR_if (fun _ => RR_if (fun _ => RR_cr (M_shortBranch_eq _) (RR_then (FS_half h _) (fun _ _ h2 => FS_branch_91 h2 _ _ _ _))) (fun _ => RR_cr (M_shortBranch_eq _) (RR_then (FS_half h _) (fun _ _ h2 => FS_branch_91 h2 _ _ _ _)))) (fun _ => FS_branch_91 h _ _ _ _)))
theorem FS_branch (C : Cx N X σ0 Λ ln cur start) {F : Int32} {σ : MS} (hF : F ≠ 0) (h : FS X σ0 F σ) (w a b t : Int32) : RR (M_branch N w a b t σ) (fun _ σ' => FS X σ0 F σ') := by
  have e21 : ∀ t1 t2, RR (M_branch_21 N w a b t1 t2 σ) (fun _ σ' => FS X σ0 F σ') := fun t1 t2 => by
    unfold M_branch_21
    exact RR_then (FS_target C hF h _ _) (fun v σ2 h2 => FS_branch_r C h2 _ _ _ _)
  unfold M_branch M_branch_11
  exact RR_if (fun _ => RR_if (fun _ => e21 _ _) (fun _ => e21 _ _)) (fun _ => RR_if (fun _ => e21 _ _) (fun _ => e21 _ _))
theorem J_branch (C : Cx N X σ0 Λ ln cur start) {mk w w1 a b : Int32} {test : Bool} {L lev sec kd0 : Nat} {pl : Int32} {ts : List AT} {B : List Int32} {σ : MS} (h : GR X σ0 ts B σ) (hmk : mk = 122 ∨ mk = 116) (hp : σ0.2 2 cur = nI (plc start lev sec kd0)) (h1 : lev < 4) (h2 : sec < 2) (h3 : kd0 < 4) (hrd : σ0.1 17 = 0 → lev = 0 ∧ kd0 = 0 ∧ L = (if test = true then 0 else 1)) (hnr : σ0.1 17 ≠ 0 → L = lev) (hL : L ≤ 2) (hpl : pl = if σ0.1 17 = 0 then nI (plc start (if test = true then 0 else 1) sec (if test = true then 2 else 3)) else σ0.2 2 cur)
    (hw1 : w1 = (w ||| (a <<< ((15 : Int32) &&& 31))) ||| (b <<< ((20 : Int32) &&& 31))) (h0 : L = 0 → shW mk w1 = (1 ||| ((if (w >>> ((12 : Int32) &&& 31)) &&& 7 = 0 then (6 : Int32) else 7) <<< ((13 : Int32) &&& 31))) ||| (((a - 8) &&& 7) <<< ((7 : Int32) &&& 31))) : RR (M_branch N w a b (b2 test) σ) (fun _ σ' => OutJ X Λ σ0 ln cur start L pl (shp [mk] ts w1 0 []) B σ') := by
  have e : M_branch N w a b (b2 test) σ = M_branch_21 N w a b (nI (if test = true then 2 else 3)) (nI (if test = true then 0 else 1)) σ := by
    unfold M_branch M_branch_11
    cases test <;> rfl
  have hjm0 : jmk mk 0 = 66 ∧ jmk mk 1 = 116 ∧ jmk mk 2 = 106 := by rcases hmk with h | h <;> subst h <;> decide
  rw [e]
  unfold M_branch_21
  refine J_go C (mk := mk) (kd := if test = true then 2 else 3) (least := if test = true then 0 else 1) (lev := lev) (sec := sec) (kd0 := kd0) h hp h1 h2 h3 (by split <;> decide) (by split <;> decide) hrd hnr (Or.inr ⟨hmk, by cases test <;> decide, hL⟩) hpl (fun x g rest σ2 hG hlv => RR_cr hlv (RR_bnd ?_)) (fun F v σ1 hF hS => FS_branch_r C hS _ _ _ _)
  rcases (show L = 0 ∨ L = 1 ∨ L = 2 by omega) with e | e | e <;> subst e
  · have key : ∀ t2 : Int32, t2 = (if (w >>> ((12 : Int32) &&& 31)) &&& 7 = 0 then (6 : Int32) else 7) → RR (M_branch_67 N w a x (nI 0) ((a <<< ((15 : Int32) &&& 31)) ||| (b <<< ((20 : Int32) &&& 31))) 1 t2 σ2) (fun _ σ' => ∃ Bs, GR X (jm σ0 cur pl g) rest (B ++ Bs) σ' ∧ Bs.length = 2 * 2 ^ 0 ∧ Bs = jB mk w1 x 0) := by
      intro t2 ht2
      unfold M_branch_67 M_branch_91 M_branch_111
      refine RR_cr (M_shortBranch_eq _) (RR_then (G_half hG _) (fun _ σ3 h3 => RR_n (by decide) (RR_n (by decide) (RR_ret ⟨_, h3, wB_len _ _, ?_⟩))))
      unfold jB
      rw [if_neg (by decide), if_neg (by decide), hjm0.1, h0 rfl, ht2]
    refine RR_y rfl (RR_if (fun z => key 6 (by rw [if_pos z])) (fun z => key 7 (by rw [if_neg z])))
  · refine RR_n (by decide) ?_
    unfold M_branch_91 M_branch_111
    refine RR_y rfl (RR_cr (M_branchBits_eq _) (RR_then (G_word hG _) (fun _ σ3 h3 => RR_n (by decide) (RR_ret ⟨_, h3, wB_len _ _, ?_⟩))))
    unfold jB
    rw [if_neg (by decide), if_pos rfl, hjm0.2.1, hw1, ← Int32.or_assoc w]
  · refine RR_n (by decide) ?_
    unfold M_branch_91 M_branch_111
    refine RR_n (by decide) (RR_y (by decide) (RR_cr (M_branchBits_eq _) (RR_then (G_word hG _) (fun _ σ3 h3 => RR_cr (M_jumpBits_eq _) (RR_then (G_word h3 _) (fun _ σ4 h4 => RR_ret ⟨wB (((w ^^^ 4096) ||| ((a <<< ((15 : Int32) &&& 31)) ||| (b <<< ((20 : Int32) &&& 31)))) ||| scat 116 8) 4 ++ wB (111 ||| scat 106 (x - 4)) 4, ?_, ?_, ?_⟩))))))
    · rw [← List.append_assoc]; exact h4
    · rw [List.length_append, wB_len, wB_len]
    · unfold jB
      rw [if_pos rfl, hjm0.2.2, hw1, xor_or _ _ 20 (by decide) (by decide), xor_or _ _ 15 (by decide) (by decide), ← Int32.or_assoc (w ^^^ 4096)]
end
