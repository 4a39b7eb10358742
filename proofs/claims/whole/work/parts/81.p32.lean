/-! ===== jumps and branches ===== -/
def plc (start lev sec kd : Nat) : Nat := start + 8192 * lev + 32768 * sec + 65536 * kd
theorem or_3 (a s k : Int32) : (a ||| s) ||| k = (a ||| k) ||| s := by ac_rfl
theorem pl_or0 : ∀ kd, kd < 4 → ∀ sec, sec < 2 → ∀ least, least < 2 → nI (sec * 4 * 2 ^ 13) ||| ((nI kd <<< ((16 : Int32) &&& 31)) ||| (nI least <<< ((13 : Int32) &&& 31))) = nI ((8 * kd + 4 * sec + least) * 2 ^ 13) := by decide +kernel
theorem pl_or {start sec kd least : Nat} (hs : start < 8192) (h2 : sec < 2) (h3 : kd < 4) (h4 : least < 2) : nI (plc start 0 sec 0) ||| ((nI kd <<< ((16 : Int32) &&& 31)) ||| (nI least <<< ((13 : Int32) &&& 31))) = nI (plc start least sec kd) := by
  have e1 : nI (plc start 0 sec 0) = nI (sec * 4 * 2 ^ 13) ||| nI start := by
    rw [nI_or (k := 13) hs (by omega)]
    congr 1
    unfold plc
    omega
  have e2 : nI (plc start least sec kd) = nI ((8 * kd + 4 * sec + least) * 2 ^ 13) ||| nI start := by
    rw [nI_or (k := 13) hs (by omega)]
    congr 1
    unfold plc
    omega
  rw [e1, e2, ← pl_or0 kd h3 sec h2 least h4]
  exact or_3 _ _ _
theorem pl_lev {start lev sec kd : Nat} (hs : start < 8192) (h1 : lev < 4) (h2 : sec < 2) (h3 : kd < 4) : (nI (plc start lev sec kd) >>> ((13 : Int32) &&& 31)) &&& 3 = nI lev := by
  unfold plc
  rw [nI_shr (k := 13) (by omega) (by decide), nI_and (by omega) 2 (by decide)]
  congr 1
  omega
theorem pl_start {start lev sec kd : Nat} (hs : start < 8192) (h1 : lev < 4) (h2 : sec < 2) (h3 : kd < 4) : nI (plc start lev sec kd) &&& 8191 = nI start := by
  unfold plc
  rw [nI_and (by omega) 13 (by decide)]
  congr 1
  omega
/-- the state behind a jump's target: the statement's place, and whether it grows -/
def pm (σ0 : MS) (cur : Nat) (pl : Int32) : MS := (σ0.1, fun k => if k = 2 then upd (σ0.2 2) cur pl else σ0.2 k)
def jm (σ0 : MS) (cur : Nat) (pl g : Int32) : MS := sF (pm σ0 cur pl) 23 g
def jmk (mk : Int32) (L : Nat) : Int32 := mkF mk (nI (2 * 2 ^ L))
def jcnt (off : Int32) (L : Nat) : Int32 := if L = 2 then off - 4 else off
def jgr (σ0 : MS) (mk : Int32) (L : Nat) (m d : Bool) (off : Int32) : Bool := decide (σ0.1 17 = 1) && !m && !d && decide (L < (if mk = 120 then 1 else 2)) && !(fitB (jmk mk L) (jcnt off L))
section
variable {N : Nat} {X : List Int32} {σ0 : MS} {Λ : List Lb} {ln cur start : Nat}
theorem pm_self (σ0 : MS) (cur : Nat) : pm σ0 cur (σ0.2 2 cur) = σ0 := by
  unfold pm
  refine Prod.ext rfl (funext fun k => ?_)
  show (if k = 2 then _ else _) = _
  by_cases e : k = 2
  · rw [if_pos e, e]
    funext i
    unfold upd
    by_cases h : i = cur
    · rw [if_pos h, h]
    · rw [if_neg h]
  · rw [if_neg e]
theorem FS_pm {F : Int32} {σ : MS} {pl : Int32} : FS X (pm σ0 cur pl) F σ ↔ FS X σ0 F σ := by
  constructor
  · rintro ⟨⟨h1, h2⟩, h3, h4⟩
    exact ⟨⟨h1, fun k k2 k4 k7 => by rw [h2 k k2 k4 k7]; exact if_neg k2⟩, h3, h4⟩
  · rintro ⟨⟨h1, h2⟩, h3, h4⟩
    exact ⟨⟨h1, fun k k2 k4 k7 => by rw [h2 k k2 k4 k7]; exact (if_neg k2).symm⟩, h3, h4⟩
theorem GR_23 {σp : MS} {r : List AT} {B : List Int32} {σ : MS} (h : GR X σp r B σ) (g : Int32) : GR X (sF σp 23 g) r B (sF σ 23 g) := by
  obtain ⟨q, hl, hF, hq, h9, h20, h22⟩ := h
  refine ⟨q, hl, ⟨fun j hj => ?_, hF.2⟩, hq, ?_, ?_, ?_⟩
  · by_cases e : j = 23
    · subst e; rw [sF_at, sF_at]
    · rw [sF_ne _ _ e, sF_ne _ _ e]; exact hF.1 j hj
  · rw [sF_ne _ _ (by decide)]; exact h9
  · rw [sF_ne _ _ (by decide)]; exact h20
  · rw [sF_ne _ _ (by decide), h22]
    unfold gw
    rw [sF_ne _ _ (by decide), sF_ne _ _ (by decide)]
theorem M_level_eq {σ : MS} {start lev sec kd : Nat} (hc : σ.1 18 = nI cur) (hcur : cur < 1030) (hp : σ.2 2 cur = nI (plc start lev sec kd)) (hs : start < 8192) (h1 : lev < 4) (h2 : sec < 2) (h3 : kd < 4) : M_level σ = some (nI lev) := by
  unfold M_level
  rw [hc, gd_t (inB_nI hcur (by omega)), nI_clamp (by omega), hp, pl_lev hs h1 h2 h3]
theorem FS_grow {F : Int32} {σ : MS} (h : FS X σ0 F σ) (x t1 : Int32) (ht : isB t1 = true) : RR (M_target_202 N x t1 σ) (fun _ σ' => FS X σ0 F σ') := by
  unfold M_target_202
  exact RR_gd ht (RR_bnd (RR_ret (h.sFv _ (by decide) (by decide) (by decide))))
theorem FS_target_53 {F : Int32} {σ : MS} (hF : F ≠ 0) (h : FS X σ0 F σ) (x1 x3 t0 : Int32) : RR (M_target_53 N x1 x3 t0 σ) (fun _ σ' => FS X σ0 F σ') := by
  have e201 : ∀ x σ2, FS X σ0 F σ2 → RR (M_target_201 N x σ2) (fun _ σ' => FS X σ0 F σ') := fun x σ2 h2 => by unfold M_target_201; exact FS_grow h2 _ _ (by decide)
  have e197 : ∀ x σ2, FS X σ0 F σ2 → RR (M_target_197 N x σ2) (fun _ σ' => FS X σ0 F σ') := fun x σ2 h2 => by unfold M_target_197; exact FS_grow h2 _ _ (by decide)
  have e170 : ∀ a b c d e σ2, FS X σ0 F σ2 → RR (M_target_170 N a b c d e σ2) (fun _ σ' => FS X σ0 F σ') := fun a b c d e σ2 h2 => by
    unfold M_target_170
    exact RR_if (fun _ => e201 _ _ h2) (fun _ => RR_if (fun _ => e197 _ _ h2) (fun _ => RR_if (fun _ => e197 _ _ h2) (fun _ => RR_gd (by decide) (RR_if (fun _ => e201 _ _ h2) (fun _ => e197 _ _ h2)))))
  have e119 : ∀ a b c d e σ2, FS X σ0 F σ2 → RR (M_target_119 N a b c d e σ2) (fun _ σ' => FS X σ0 F σ') := fun a b c d e σ2 h2 => by
    unfold M_target_119
    exact RR_then (FS_fits hF h2 _ _ _ nz2) (fun _ σ3 h3 => RR_if (fun _ => RR_if (fun _ => RR_if (fun _ => RR_if (fun _ => e170 _ _ _ _ _ _ h3) (fun _ => e170 _ _ _ _ _ _ h3)) (fun _ => e201 _ _ h3)) (fun _ => e201 _ _ h3)) (fun _ => e201 _ _ h3))
  have e93 : ∀ a b c d σ2, FS X σ0 F σ2 → RR (M_target_93 N a b c d σ2) (fun _ σ' => FS X σ0 F σ') := fun a b c d σ2 h2 => by
    unfold M_target_93
    exact RR_if (fun _ => e119 _ _ _ _ _ _ h2) (fun _ => RR_if (fun _ => e119 _ _ _ _ _ _ h2) (fun _ => e119 _ _ _ _ _ _ h2))
  have e68 : ∀ a b c d σ2, FS X σ0 F σ2 → RR (M_target_68 N a b c d σ2) (fun _ σ' => FS X σ0 F σ') := fun a b c d σ2 h2 => by
    unfold M_target_68 M_target_87
    exact RR_if (fun _ => e119 _ _ _ _ _ _ h2) (fun _ => RR_if (fun _ => RR_if (fun _ => e119 _ _ _ _ _ _ h2) (fun _ => e93 _ _ _ _ _ h2)) (fun _ => e93 _ _ _ _ _ h2))
  unfold M_target_53
  exact RR_if (fun _ => e68 _ _ _ _ _ h) (fun _ => e68 _ _ _ _ _ h)
theorem FS.pl {F : Int32} {σ : MS} (h : FS X σ0 F σ) (i : Nat) (v : Int32) : FS X σ0 F (sA σ 2 i v) := ⟨⟨h.1.1, fun k k2 k4 k7 => by rw [sA_ne k2]; exact h.1.2 k k2 k4 k7⟩, h.2.1, h.2.2⟩
theorem FS_level (C : Cx N X σ0 Λ ln cur start) {F : Int32} {σ : MS} (h : FS X σ0 F σ) : ∃ v, M_level σ = some v := by
  unfold M_level
  rw [h.1.1 18 (by decide), C.2.2.2.2.2.1, gd_t (inB_nI C.2.2.2.2.2.2.1 (by omega))]
  exact ⟨_, rfl⟩
theorem FS_target_r (C : Cx N X σ0 Λ ln cur start) {F : Int32} {σ : MS} (hF : F ≠ 0) (h : FS X σ0 F σ) (x1 x2 r1 : Int32) : RR (if (σ.1 17) = 0 then gd (inB (σ.1 18) 1030) (gd (inB (σ.1 18) 1030) (bnd (sA σ 2 (σ.1 18).toNatClampNeg ((σ.2 2 (σ.1 18).toNatClampNeg) ||| ((x1 <<< ((16 : Int32) &&& 31)) ||| (x2 <<< ((13 : Int32) &&& 31))))) (fun σ5 => M_target_38 N x1 x2 (r1 - (σ.1 19)) σ5))) else M_target_38 N x1 x2 (r1 - (σ.1 19)) σ) (fun _ σ' => FS X σ0 F σ') := by
  have hcur := C.2.2.2.2.2.2.1
  have hin : inB (σ.1 18) 1030 = true := by rw [h.1.1 18 (by decide), C.2.2.2.2.2.1]; exact inB_nI hcur (by omega)
  have e38 : ∀ σ2 x, FS X σ0 F σ2 → RR (M_target_38 N x1 x2 x σ2) (fun _ σ' => FS X σ0 F σ') := fun σ2 x h2 => by
    unfold M_target_38
    obtain ⟨v, hv⟩ := FS_level C h2
    exact RR_if (fun _ => FS_target_53 hF h2 _ _ _) (fun _ => RR_cr hv (FS_target_53 hF h2 _ _ _))
  exact RR_if (fun _ => RR_gd hin (RR_gd hin (RR_bnd (e38 _ _ (h.pl _ _))))) (fun _ => e38 _ _ h)
theorem FS_target (C : Cx N X σ0 Λ ln cur start) {F : Int32} {σ : MS} (hF : F ≠ 0) (h : FS X σ0 F σ) (x1 x2 : Int32) : RR (M_target N x1 x2 σ) (fun _ σ' => FS X σ0 F σ') := by
  unfold M_target
  exact RR_then (FS_expr C hF h) (fun v σ2 h2 => FS_target_r C hF h2 _ _ _)
/-- what target() leaves -/
def Tgt (X : List Int32) (Λ : List Lb) (σ0 : MS) (ln cur start : Nat) (mk : Int32) (L : Nat) (pl : Int32) (ts : List AT) (B : List Int32) (x : Int32) (σ : MS) : Prop :=
  (cmpT ts = none ∧ FS X σ0 (fl ln 1) σ) ∨ (∃ R rest v m d, cmpT ts = some (R, rest) ∧ evV (η0 X Λ σ0 start) R = (v, m, d) ∧ CK X σ0 ln (ckF m d (fitB (jmk mk L) (jcnt (v - σ0.1 19) L))) (fun σ => x = v - σ0.1 19 ∧ GR X (jm σ0 cur pl (b2 (jgr σ0 mk L m d (v - σ0.1 19)))) rest B σ) σ)
def jhi (mk : Int32) (L : Nat) : Int32 := if L = 0 then (if mk = 120 then 2046 else 254) else if L = 1 then (if mk = 120 then 1048574 else 4094) else 1048574
def Jk (mk kd : Int32) (L : Nat) : Prop := (mk = 120 ∧ kd = 1 ∧ L ≤ 1) ∨ ((mk = 122 ∨ mk = 116) ∧ (kd = 2 ∨ kd = 3) ∧ L ≤ 2)
theorem Jk.cases {mk kd : Int32} {L : Nat} (h : Jk mk kd L) {P : Int32 → Int32 → Nat → Prop} (h1 : P 120 1 0) (h2 : P 120 1 1) (h3 : ∀ mk kd, (mk = 122 ∨ mk = 116) → (kd = 2 ∨ kd = 3) → P mk kd 0 ∧ P mk kd 1 ∧ P mk kd 2) : P mk kd L := by
  rcases h with ⟨e1, e2, hL⟩ | ⟨e1, e2, hL⟩
  · subst e1; subst e2
    rcases (show L = 0 ∨ L = 1 by omega) with h | h <;> subst h
    · exact h1
    · exact h2
  · obtain ⟨a, b, c⟩ := h3 mk kd e1 e2
    rcases (show L = 0 ∨ L = 1 ∨ L = 2 by omega) with h | h | h <;> subst h
    · exact a
    · exact b
    · exact c
theorem T_119 {mk kd : Int32} {L : Nat} (h : Jk mk kd L) (off : Int32) (σ : MS) : M_target_53 N kd off (nI L) σ = M_target_119 N kd off (nI L) (jcnt off L) (jhi mk L) σ := by
  refine h.cases (P := fun mk kd L => M_target_53 N kd off (nI L) σ = M_target_119 N kd off (nI L) (jcnt off L) (jhi mk L) σ) ?_ ?_ (fun mk kd e1 e2 => ?_)
  · rfl
  · rfl
  · rcases e1 with e1 | e1 <;> rcases e2 with e2 | e2 <;> subst e1 <;> subst e2 <;> exact ⟨rfl, rfl, rfl⟩
theorem T_fit {mk kd : Int32} {L : Nat} (h : Jk mk kd L) (x : Int32) : fitR x (-(jhi mk L) - 2) (jhi mk L) 2 = fitB (jmk mk L) x := by
  rw [fitR_2]
  refine h.cases (P := fun mk kd L => inW x (-(jhi mk L) - 2) (jhi mk L) 2 = fitB (jmk mk L) x) ?_ ?_ (fun mk kd e1 e2 => ?_)
  · rfl
  · rfl
  · rcases e1 with e1 | e1 <;> subst e1 <;> exact ⟨rfl, rfl, rfl⟩
theorem T_lim {mk kd : Int32} {L : Nat} (h : Jk mk kd L) (a b c : Int32) (σ : MS) : (if kd = 1 then M_target_170 N a b c (nI L) 1 σ else M_target_170 N a b c (nI L) 2 σ) = M_target_202 N a (b2 (decide (L < (if mk = 120 then 1 else 2)) && !(fitR b (-c - 2) c 2))) σ := by
  have e170 : ∀ (lim : Nat), lim < 100 → M_target_170 N a b c (nI L) (nI lim) σ = M_target_202 N a (b2 (decide (L < lim) && !(fitR b (-c - 2) c 2))) σ := by
    intro lim hlim
    have hL : L ≤ 2 := by rcases h with ⟨-, -, hL⟩ | ⟨-, -, hL⟩ <;> omega
    unfold M_target_170 M_target_201 M_target_197 fitR
    by_cases c1 : L < lim
    · rw [if_neg (by rw [nI_leI (by omega) (by omega)]; omega), decide_eq_true c1, Bool.true_and]
      by_cases c2 : b < -c - 2
      · rw [if_pos c2, decide_eq_true c2]; rfl
      · rw [if_neg c2, decide_eq_false c2]
        by_cases c3 : c < b
        · rw [if_pos c3, decide_eq_true c3]; rfl
        · rw [if_neg c3, decide_eq_false c3, gd_t (by decide)]
          by_cases c4 : jrem b 2 = 0
          · rw [if_pos c4, decide_eq_true c4]; rfl
          · rw [if_neg c4, decide_eq_false c4]; rfl
    · rw [if_pos (by rw [nI_leI (by omega) (by omega)]; omega), decide_eq_false c1]; rfl
  rcases h with ⟨e1, e2, hL⟩ | ⟨e1, e2, hL⟩
  · rw [if_pos e2, if_pos e1]
    exact e170 1 (by decide)
  · rw [if_neg (by rcases e2 with h | h <;> rw [h] <;> decide), if_neg (by rcases e1 with h | h <;> rw [h] <;> decide)]
    exact e170 2 (by decide)
theorem CK_pm {f : Nat} {P : MS → Prop} {σ : MS} {pl : Int32} (h : CK X (pm σ0 cur pl) ln f P σ) : CK X σ0 ln f P σ := by
  rcases h.cases with ⟨c1, c2, c3⟩ | ⟨c1, c2⟩
  · exact CK.y c1 c2 (FS_pm.mp c3)
  · exact CK.n c1 c2
theorem Cx_pm (C : Cx N X σ0 Λ ln cur start) {pl : Int32} (hpl : pl &&& 8191 = nI start) : Cx N X (pm σ0 cur pl) Λ ln cur start := by
  obtain ⟨c1, c2, c3, c4, c5, c6, c7, c8, c9, c10⟩ := C
  refine ⟨c1, ⟨c2.1, c2.2.1, c2.2.2⟩, ⟨c3.1, c3.2.1, c3.2.2⟩, c4, c5, c6, c7, ?_, c9, c10⟩
  show (if 2 = 2 then upd (σ0.2 2) cur pl else σ0.2 2) cur &&& 8191 = _
  rw [if_pos rfl, pk_us]
  exact hpl
theorem T_53 (C : Cx N X σ0 Λ ln cur start) {mk kd off : Int32} {L : Nat} {pl : Int32} {r : List AT} {B : List Int32} {σ : MS} {m d : Bool} (hJ : Jk mk kd L) (hpl : pl &&& 8191 = nI start) (h24 : σ.1 24 = b2 m) (h25 : σ.1 25 = b2 d) (h : CK X (pm σ0 cur pl) ln (mdF m d) (GR X (pm σ0 cur pl) r B) σ) :
    RR (M_target_53 N kd off (nI L) σ) (fun x σ' => CK X σ0 ln (ckF m d (fitB (jmk mk L) (jcnt off L))) (fun σ => x = off ∧ GR X (jm σ0 cur pl (b2 (jgr σ0 mk L m d off))) r B σ) σ') := by
  have C' := Cx_pm C hpl
  have h17 : σ.1 17 = σ0.1 17 := h.num (by decide)
  rw [T_119 hJ]
  unfold M_target_119
  have fin : ∀ (g : Bool) (σ2 : MS), g = jgr σ0 mk L m d off → CK X (pm σ0 cur pl) ln (ckF m d (fitB (jmk mk L) (jcnt off L))) (GR X (pm σ0 cur pl) r B) σ2 → RR (M_target_202 N off (b2 g) σ2) (fun x σ' => CK X σ0 ln (ckF m d (fitB (jmk mk L) (jcnt off L))) (fun σ => x = off ∧ GR X (jm σ0 cur pl (b2 (jgr σ0 mk L m d off))) r B σ) σ') := by
    intro g σ2 hg h2
    unfold M_target_202
    refine RR_gd (b2_isB g) (RR_bnd (RR_ret ?_))
    rcases h2.cases with ⟨c1, c2, c3⟩ | ⟨c1, c2⟩
    · exact CK.y c1 c2 ((FS_pm.mp c3).sFv _ (by decide) (by decide) (by decide))
    · rw [hg]
      exact CK.n c1 ⟨rfl, GR_23 c2 _⟩
  by_cases hm1 : σ0.1 17 = 1
  · have hG : GR X (pm σ0 cur pl) r B σ := by
      rcases h.cases with ⟨c1, -, -⟩ | ⟨-, c2⟩
      · exact absurd (hm1.symm.trans c1) (by decide)
      · exact c2
    rw [M_fits_good nz2 (Or.inl (by rw [h17, hm1]; decide))]
    show RR (if σ.1 17 = 1 then _ else _) _
    have hC : CK X (pm σ0 cur pl) ln (ckF m d (fitB (jmk mk L) (jcnt off L))) (GR X (pm σ0 cur pl) r B) σ := CK.n (fun z => absurd (hm1.symm.trans z.1) (by decide)) hG
    refine RR_y (h17.trans hm1) ?_
    rw [h24, h25]
    unfold M_target_201
    cases hm : m with
    | true => exact RR_n (by decide) (by rw [hm] at hC fin; exact fin false σ (by unfold jgr; simp) hC)
    | false =>
      refine RR_y rfl ?_
      cases hd : d with
      | true => exact RR_n (by decide) (by rw [hm, hd] at hC fin; exact fin false σ (by unfold jgr; simp) hC)
      | false =>
        refine RR_y rfl ?_
        rw [T_lim hJ, T_fit hJ]
        rw [hm, hd] at hC fin
        refine fin _ σ ?_ hC
        unfold jgr
        rw [decide_eq_true hm1]
        simp
  · refine RR_then (G_fits C' h _ _ _ nz2) (fun _ σ2 h2 => ?_)
    rw [T_fit hJ] at h2
    refine RR_n (by rw [show σ2.1 17 = σ0.1 17 from h2.num (by decide)]; exact hm1) ?_
    unfold M_target_201
    refine fin false σ2 ?_ h2
    unfold jgr
    rw [decide_eq_false hm1]
    rfl
/-- target(): L is the level that counts, pl the statement's place behind it -/
theorem G_target (C : Cx N X σ0 Λ ln cur start) {mk : Int32} {kd least L lev sec kd0 : Nat} {ts : List AT} {B : List Int32} {σ : MS} (h : GR X σ0 ts B σ) (hp : σ0.2 2 cur = nI (plc start lev sec kd0)) (hs : start < 8192) (h1 : lev < 4) (h2 : sec < 2) (h3 : kd0 < 4) (hkd : kd < 4) (hle : least < 2) (hrd : σ0.1 17 = 0 → lev = 0 ∧ kd0 = 0 ∧ L = least) (hnr : σ0.1 17 ≠ 0 → L = lev) (hJ : Jk mk (nI kd) L) : RR (M_target N (nI kd) (nI least) σ) (fun x σ' => Tgt X Λ σ0 ln cur start mk L (if σ0.1 17 = 0 then nI (plc start least sec kd) else σ0.2 2 cur) ts B x σ') := by
  have hcur := C.2.2.2.2.2.2.1
  unfold M_target
  refine RR_then (G_expr C h) (fun v σ2 h2' => ?_)
  rcases h2' with ⟨e1, e2⟩ | ⟨R, rest, m, d, e1, e2, e3, e4, -, e6⟩
  · exact RR_imp (FS_target_r C (fl_ne0 C (by omega)) e2 _ _ _) (fun _ σ' h' => Or.inl ⟨e1, h'⟩)
  · have h17 : σ2.1 17 = σ0.1 17 := e6.num (by decide)
    have h18 : σ2.1 18 = nI cur := (e6.num (by decide)).trans C.2.2.2.2.2.1
    have h19 : σ2.1 19 = σ0.1 19 := e6.num (by decide)
    have a2 : FS X σ0 (fl ln (mdF m d)) σ2 ∨ σ2.2 2 = σ0.2 2 := by
      rcases e6.cases with ⟨-, -, c3⟩ | ⟨-, c2⟩
      · exact Or.inl c3
      · exact Or.inr (c2.f.2 2 (by decide))
    have fin : ∀ (pl : Int32) (σ3 : MS), pl &&& 8191 = nI start → σ3.1 = σ2.1 → (σ2.2 2 = σ0.2 2 → σ3.2 2 = upd (σ0.2 2) cur pl) → (∀ k, k ≠ 2 → σ3.2 k = σ2.2 k) → RR (M_target_53 N (nI kd) (v - σ0.1 19) (nI L) σ3) (fun x σ' => Tgt X Λ σ0 ln cur start mk L pl ts B x σ') := by
      intro pl σ3 hpl q1 q2 q3
      refine RR_imp (T_53 C (m := m) (d := d) hJ hpl (by rw [q1]; exact e3) (by rw [q1]; exact e4) (r := rest) (B := B) ?_) (fun x σ' h' => Or.inr ⟨R, rest, v, m, d, e1, evV_of e2, h'⟩)
      rcases e6.cases with ⟨c1, c2, c3⟩ | ⟨c1, c2⟩
      · refine CK.y c1 c2 (FS_pm.mpr ⟨⟨fun j hj => by rw [q1]; exact c3.1.1 j hj, fun k k2 k4 k7 => by rw [q3 k k2]; exact c3.1.2 k k2 k4 k7⟩, ?_, by rw [q1]; exact c3.2.2⟩)
        obtain ⟨q, qa, qb⟩ := c3.2.1
        exact ⟨q, qa, by rw [q1]; exact qb⟩
      · refine CK.n c1 ?_
        obtain ⟨q, hl, hF, hq, h9, h20, h22⟩ := c2
        refine ⟨q, hl, ⟨fun j hj => by rw [q1]; exact hF.1 j hj, fun k hk => ?_⟩, hq, by rw [q1]; exact h9, by rw [q1]; exact h20, by rw [q1]; exact h22⟩
        show _ = if k = 2 then _ else _
        by_cases k2 : k = 2
        · rw [if_pos k2, k2]; exact q2 (hF.2 2 (by decide))
        · rw [if_neg k2, q3 k k2]; exact hF.2 k hk
    rw [h17, h18, h19, gd_t (inB_nI hcur (by omega)), gd_t (inB_nI hcur (by omega)), nI_clamp (by omega)]
    by_cases hm : σ0.1 17 = 0
    · obtain ⟨g1, g2, g3⟩ := hrd hm
      rw [if_pos hm, if_pos hm]
      refine RR_bnd ?_
      unfold M_target_38
      refine RR_y (show σ2.1 17 = 0 by rw [h17]; exact hm) ?_
      rw [← g3]
      refine fin _ _ (pl_start hs (by omega) h2 hkd) rfl (fun z => ?_) (fun k hk => sA_ne hk)
      rw [sA_eq, z]
      congr 1
      rw [hp, g1, g2, g3]
      exact pl_or hs h2 hkd hle
    · rw [if_neg hm, if_neg hm]
      unfold M_target_38
      refine RR_n (by rw [h17]; exact hm) ?_
      have hlev : M_level σ2 = some (nI L) ∨ FS X σ0 (fl ln (mdF m d)) σ2 := by
        rcases a2 with a2 | a2
        · exact Or.inr a2
        · refine Or.inl ?_
          rw [hnr hm]
          exact M_level_eq h18 hcur (by rw [a2]; exact hp) hs h1 h2 h3
      rcases hlev with hl | hl
      · refine RR_cr hl (fin _ σ2 (by rw [hp]; exact pl_start hs h1 h2 h3) rfl (fun z => ?_) (fun k hk => rfl))
        rw [z]
        funext i
        unfold upd
        by_cases hi : i = cur
        · rw [if_pos hi, hi]
        · rw [if_neg hi]
      · obtain ⟨lv, hlv⟩ := FS_level C hl
        rcases e6.cases with ⟨c1, c2, c3⟩ | ⟨c1, c2⟩
        · refine RR_cr hlv (RR_imp (FS_target_53 (fl_ne0 C ⟨by omega, mdF_le m d⟩) c3 _ _ _) (fun x σ' h' => Or.inr ⟨R, rest, v, m, d, e1, evV_of e2, ?_⟩))
          refine CK.y c1 (by rw [ckF_md _ c2]; exact c2) ?_
          rw [ckF_md _ c2]
          exact h'
        · refine RR_cr (M_level_eq h18 hcur (by rw [c2.f.2 2 (by decide)]; exact hp) hs h1 h2 h3) ?_
          rw [← hnr hm]
          refine fin _ σ2 (by rw [hp]; exact pl_start hs h1 h2 h3) rfl (fun z => ?_) (fun k hk => rfl)
          rw [z]
          funext i
          unfold upd
          by_cases hi : i = cur
          · rw [if_pos hi, hi]
          · rw [if_neg hi]
end
