/-! ===== the short statements of the eight registers; the rest of the plain shapes ===== -/
section
variable {N : Nat} {X : List Int32} {σ0 : MS} {Λ : List Lb} {ln cur start : Nat}
/-- to smalls() behind the comma -/
theorem Sm_pre (C : Cx N X σ0 Λ ln cur start) {c s w : Int32} {sh : List Int32} {ts : List AT} {B : List Int32} {σ : MS} (hc : c ∈ ([65, 68] : List Int32)) (h1 : ¬ s = 19) (h2 : ¬ s = 20) (h3 : s < 16 ∨ (¬ s < 16 ∧ ¬ s ≤ 20 ∧ ¬ 25 ≤ s)) (h4 : ¬ s = 27) (h5 : ¬ s = 26) (h6 : ¬ s = 18) (h : GR X σ0 ts B σ)
    (good : ∀ i r σ1, i < 8 → GR X σ0 r B σ1 → RR (M_smalls N s w (nI i) σ1) (fun _ σ' => OutS X Λ σ0 ln start (shp sh r (w ||| rb c (nI (i + 8))) 0 []) B σ')) : RR (M_shorts N s w σ) (fun _ σ' => OutS X Λ σ0 ln start (shp (c :: 44 :: sh) ts w 0 []) B σ') := by
  rw [M_small h1 h2 h3]
  refine S_reg8 C hc h (fun i r σ1 hi hG => Sh_pre h4 h5 h6 ?_) (fun F v σ1 hF hS => FS_shorts_156 hF hS _ _ _ _)
  unfold M_shorts_221 M_shorts_341
  exact S_comma C hG (fun r2 σ2 hG2 => RR_n (by decide) (RR_then (good i r2 σ2 hi hG2) (fun _ _ h2 => RR_ret h2)))
theorem H_13 (C : Cx N X σ0 Λ ln cur start) {ts : List AT} {B : List Int32} {σ : MS} {w : Int32} (h : GR X σ0 ts B σ) (hw : ¬ w &&& 3 = 3) : RR (M_shorts N 13 w σ) (fun _ σ' => OutS X Λ σ0 ln start (shp [68, 44, 52] ts w 0 []) B σ') := by
  refine Sm_pre C (by decide) (by decide) (by decide) (Or.inl (by decide)) (by decide) (by decide) (by decide) h (fun i r σ1 hi hG => ?_)
  unfold M_smalls M_smalls_306
  refine RR_y rfl ?_
  refine S_within C (by decide) nz4 hG (fun R rest v m d σ5 ev hC => RR_cr (bits_pic v (b := 2) 4 2 (by decide) (by decide) (by decide) (by decide) (by decide)) (RR_cr (bits_pic v (b := 4) 6 4 (by decide) (by decide) (by decide) (by decide) (by decide)) (RR_cr (bits_pic v (b := 1) 2 1 (by decide) (by decide) (by decide) (by decide) (by decide)) (RR_cr (bits_pic v (b := 1) 3 1 (by decide) (by decide) (by decide) (by decide) (by decide)) ?_)))) (fun F v σ1 hF hS => RR_cr rfl (RR_cr rfl (RR_cr rfl (RR_cr rfl (RR_then (FS_half hS _) (fun _ _ h2 => RR_ret h2))))))
  refine RR_then (E_hx C (by decide) ev hC (by rw [numI_52, fitB_52, fitR_4]) ?_ (fun _ => ?_)) (fun _ _ h2 => RR_ret h2)
  · rw [low2r _ (rb_8 i hi _ (by decide))]; exact hw
  · rw [numI_52, scat_52, rb_68i i hi]
    exact or_7 _ _ _ _ _ _
theorem H_21 (C : Cx N X σ0 Λ ln cur start) {ts : List AT} {B : List Int32} {σ : MS} {w : Int32} (h : GR X σ0 ts B σ) (hw : ¬ w &&& 3 = 3) : RR (M_shorts N 21 w σ) (fun _ σ' => OutS X Λ σ0 ln start (shp [65, 44, 72] ts w 0 []) B σ') := by
  refine Sm_pre C (by decide) (by decide) (by decide) (Or.inr (by decide)) (by decide) (by decide) (by decide) h (fun i r σ1 hi hG => ?_)
  unfold M_smalls M_smalls_306
  refine RR_n (by decide) (RR_y (by decide) (RR_y rfl ?_))
  refine S_within C (by decide) nz1 hG (fun R rest v m d σ5 ev hC => ?_) (fun F v σ1 hF hS => RR_then (FS_half hS _) (fun _ _ h2 => RR_ret h2))
  refine RR_then (E_hx C (by decide) ev hC (by rw [numI_72, fitB_72, fitR_1]) ?_ (fun z => ?_)) (fun _ _ h2 => RR_ret h2)
  · rw [low2r _ (rb_8 i hi _ (by decide))]; exact hw
  · rw [fitR_1] at z
    rw [numI_72, scat_72, rb_65i i hi, in31 z]
theorem H_22 (C : Cx N X σ0 Λ ln cur start) {ts : List AT} {B : List Int32} {σ : MS} {w : Int32} (h : GR X σ0 ts B σ) (hw : ¬ w &&& 3 = 3) : RR (M_shorts N 22 w σ) (fun _ σ' => OutS X Λ σ0 ln start (shp [65, 44, 78] ts w 0 []) B σ') := by
  refine Sm_pre C (by decide) (by decide) (by decide) (Or.inr (by decide)) (by decide) (by decide) (by decide) h (fun i r σ1 hi hG => ?_)
  unfold M_smalls M_smalls_306
  refine RR_n (by decide) (RR_y (by decide) (RR_n (by decide) (RR_y rfl ?_)))
  refine S_within C (by decide) nz1 hG (fun R rest v m d σ5 ev hC => RR_cr (M_six_eq v) ?_) (fun F v σ1 hF hS => RR_cr (M_six_eq v) (RR_then (FS_half hS _) (fun _ _ h2 => RR_ret h2)))
  refine RR_then (E_hx C (by decide) ev hC (by rw [numI_78, fitB_78, fitR_1]) ?_ (fun _ => ?_)) (fun _ _ h2 => RR_ret h2)
  · rw [low2r _ (rb_8 i hi _ (by decide))]; exact hw
  · rw [numI_78, rb_65i i hi]
theorem H_23 (C : Cx N X σ0 Λ ln cur start) {ts : List AT} {B : List Int32} {σ : MS} {w : Int32} (h : GR X σ0 ts B σ) (hw : ¬ w &&& 3 = 3) : RR (M_shorts N 23 w σ) (fun _ σ' => OutS X Λ σ0 ln start (shp [65, 44, 68] ts w 0 []) B σ') := by
  refine Sm_pre C (by decide) (by decide) (by decide) (Or.inr (by decide)) (by decide) (by decide) (by decide) h (fun i r σ1 hi hG => ?_)
  unfold M_smalls M_smalls_306
  refine RR_n (by decide) (RR_y (by decide) (RR_n (by decide) (RR_n (by decide) (RR_y rfl ?_))))
  refine S_reg8 C (by decide) hG (fun i2 r2 σ2 hi2 hG2 => ?_) (fun F v σ1 hF hS => RR_then (FS_half hS _) (fun _ _ h2 => RR_ret h2))
  refine RR_then (E_h hG2 ?_ ?_) (fun _ _ h2 => RR_ret h2)
  · rw [low2r _ (rb_8 i2 hi2 _ (by decide)), low2r _ (rb_8 i hi _ (by decide))]; exact hw
  · rw [rb_65i i hi, rb_68i i2 hi2]
theorem nz2 : nz 2 = true := by decide
/-- an expression, less where the statement stands, held against bounds -/
theorem S_rel (C : Cx N X σ0 Λ ln cur start) {c lo hi : Int32} {ts : List AT} {w : Int32} {B : List Int32} {σ : MS} {k : Int32 → MS → Option (Int32 × MS)} (hc : ¬ (c = 44 ∨ c = 40 ∨ c = 41) ∧ isRM c = false) (h : GR X σ0 ts B σ)
    (good : ∀ R rest v m d σ1, evV (η0 X Λ σ0 start) R = (v, m, d) → CK X σ0 ln (ckF m d (fitR (v - σ0.1 19) lo hi 2)) (GR X σ0 rest B) σ1 → RR (k (v - σ0.1 19) σ1) (fun _ σ' => OutS X Λ σ0 ln start (shp [] rest w c R) B σ'))
    (bad : ∀ F v σ1, F ≠ 0 → FS X σ0 F σ1 → RR (k v σ1) (fun _ σ' => FS X σ0 F σ')) : RR (cl (M_expression N σ) (fun r1 σ2 => cl (M_fits (r1 - (σ2.1 19)) lo hi 2 σ2) (fun r3 σ4 => k (r1 - (σ2.1 19)) σ4))) (fun _ σ' => OutS X Λ σ0 ln start (shp [c] ts w 0 []) B σ') := by
  refine S_expr C hc h (fun R rest v m d σ1 ev hC => ?_) (fun F v σ1 hF hS => RR_then (FS_fits hF hS _ _ _ nz2) (fun _ σ2 h2 => bad F _ σ2 hF h2))
  rw [show σ1.1 19 = σ0.1 19 from hC.num (by decide)]
  exact RR_then (G_fits C hC _ lo hi nz2) (fun _ σ2 h2 => good R rest v m d σ2 ev h2)
theorem H_24 (C : Cx N X σ0 Λ ln cur start) {ts : List AT} {B : List Int32} {σ : MS} {w : Int32} (h : GR X σ0 ts B σ) (hw : ¬ w &&& 3 = 3) : RR (M_shorts N 24 w σ) (fun _ σ' => OutS X Λ σ0 ln start (shp [65, 44, 66] ts w 0 []) B σ') := by
  refine Sm_pre C (by decide) (by decide) (by decide) (Or.inr (by decide)) (by decide) (by decide) (by decide) h (fun i r σ1 hi hG => ?_)
  unfold M_smalls M_smalls_306
  refine RR_n (by decide) (RR_y (by decide) (RR_n (by decide) (RR_n (by decide) (RR_n (by decide) ?_))))
  refine S_rel C (k := fun x σ4 => cr (M_shortBranch x) (fun r5 => cl (M_half ((w ||| (nI i <<< ((7 : Int32) &&& 31))) ||| r5) σ4) (fun r6 σ7 => some ((0 : Int32), σ7)))) (by decide) hG (fun R rest v m d σ5 ev hC => RR_cr (M_shortBranch_eq _) ?_) (fun F v σ1 hF hS => RR_cr (M_shortBranch_eq _) (RR_then (FS_half hS _) (fun _ _ h2 => RR_ret h2)))
  refine RR_then (E_hx C (by decide) ev hC (by rw [numI_66, fitB_66, fitR_2]) ?_ (fun _ => ?_)) (fun _ _ h2 => RR_ret h2)
  · rw [low2r _ (rb_8 i hi _ (by decide))]; exact hw
  · rw [numI_66, rb_65i i hi]
theorem H_19 (C : Cx N X σ0 Λ ln cur start) {ts : List AT} {B : List Int32} {σ : MS} {w : Int32} (h : GR X σ0 ts B σ) (hw : ¬ w &&& 3 = 3) : RR (M_shorts N 19 w σ) (fun _ σ' => OutS X Λ σ0 ln start (shp [74] ts w 0 []) B σ') := by
  unfold M_shorts
  refine RR_y rfl ?_
  refine S_rel C (k := fun x σ4 => cr (M_shortJump x) (fun r5 => cl (M_half (w ||| r5) σ4) (fun r6 σ7 => some ((0 : Int32), σ7)))) (by decide) h (fun R rest v m d σ5 ev hC => RR_cr (M_shortJump_eq _) ?_) (fun F v σ1 hF hS => RR_cr (M_shortJump_eq _) (RR_then (FS_half hS _) (fun _ _ h2 => RR_ret h2)))
  refine RR_then (E_hx C (by decide) ev hC (by rw [numI_74, fitB_74, fitR_2]) hw (fun _ => ?_)) (fun _ _ h2 => RR_ret h2)
  rw [numI_74]
theorem H_20 (C : Cx N X σ0 Λ ln cur start) {ts : List AT} {B : List Int32} {σ : MS} {w : Int32} (h : GR X σ0 ts B σ) (hw : ¬ w &&& 3 = 3) : RR (M_shorts N 20 w σ) (fun _ σ' => OutS X Λ σ0 ln start (shp [54] ts w 0 []) B σ') := by
  unfold M_shorts
  refine RR_n (by decide) (RR_y rfl ?_)
  refine S_within C (by decide) (by decide) h (fun R rest v m d σ5 ev hC => RR_then (G_notZero C hC v) (fun _ σ6 hC6 => RR_cr (bits_pic v (b := 1) 9 1 (by decide) (by decide) (by decide) (by decide) (by decide)) (RR_cr (bits_pic v (b := 1) 4 1 (by decide) (by decide) (by decide) (by decide) (by decide)) (RR_cr (bits_pic v (b := 1) 6 1 (by decide) (by decide) (by decide) (by decide) (by decide)) (RR_cr (bits_pic v (b := 2) 7 2 (by decide) (by decide) (by decide) (by decide) (by decide)) (RR_cr (bits_pic v (b := 1) 5 1 (by decide) (by decide) (by decide) (by decide) (by decide)) ?_)))))) (fun F v σ1 hF hS => RR_then (FS_notZero hF hS v) (fun _ σ6 h6 => RR_cr rfl (RR_cr rfl (RR_cr rfl (RR_cr rfl (RR_cr rfl (RR_then (FS_half h6 _) (fun _ _ h2 => RR_ret h2))))))))
  refine RR_then (E_hx C (by decide) ev hC6 (by rw [numI_54, fitB_54, fitR_16]) hw (fun _ => ?_)) (fun _ _ h2 => RR_ret h2)
  rw [numI_54, scat_54]
  exact or_8 _ _ _ _ _ _
/-- a short register in brackets -/
theorem FS_smalls_126 {F : Int32} {σ : MS} (h : FS X σ0 F σ) (x2 x3 x4 x5 : Int32) : RR (M_smalls_126 N x2 x3 x4 x5 σ) (fun _ σ' => FS X σ0 F σ') := by
  unfold M_smalls_126 M_smalls_306
  exact RR_cr rfl (RR_cr rfl (RR_cr rfl (RR_then (FS_half h _) (fun _ _ h2 => RR_ret h2))))
theorem FS_smalls_110 (C : Cx N X σ0 Λ ln cur start) {F : Int32} {σ : MS} (hF : F ≠ 0) (h : FS X σ0 F σ) (x2 x3 x4 t0 : Int32) : RR (M_smalls_110 N x2 x3 x4 t0 σ) (fun _ σ' => FS X σ0 F σ') := by
  unfold M_smalls_110
  exact RR_if (fun _ => RR_then (FS_needs C hF h) (fun _ _ h2 => FS_smalls_126 h2 _ _ _ _)) (fun _ => FS_smalls_126 h _ _ _ _)
theorem FS_smalls_r (C : Cx N X σ0 Λ ln cur start) {F : Int32} {σ : MS} (hF : F ≠ 0) (h : FS X σ0 F σ) (x2 x3 r21 : Int32) : RR (if (σ.1 14) = 0 then cl (M_needs N 40 σ) (fun r23 σ24 => (if r23 = 0 then M_smalls_109 N x2 x3 r21 σ24 else cl (M_near8 N σ24) (fun r25 σ26 => M_smalls_110 N x2 x3 r21 r25 σ26))) else M_smalls_109 N x2 x3 r21 σ) (fun _ σ' => FS X σ0 F σ') := by
  unfold M_smalls_109
  exact RR_if (fun _ => RR_then (FS_needs C hF h) (fun _ σ2 h2 => RR_if (fun _ => FS_smalls_110 C hF h2 _ _ _ _) (fun _ => RR_then (FS_near8 C hF h2) (fun _ σ3 h3 => FS_smalls_110 C hF h3 _ _ _ _)))) (fun _ => FS_smalls_110 C hF h _ _ _ _)
theorem H_14 (C : Cx N X σ0 Λ ln cur start) {ts : List AT} {B : List Int32} {σ : MS} {w : Int32} (h : GR X σ0 ts B σ) (hw : ¬ w &&& 3 = 3) : RR (M_shorts N 14 w σ) (fun _ σ' => OutS X Λ σ0 ln start (shp [68, 44, 119, 40, 65, 41] ts w 0 []) B σ') := by
  have c10 := C.2.2.2.2.2.2.2.2.2
  refine Sm_pre C (by decide) (by decide) (by decide) (Or.inl (by decide)) (by decide) (by decide) (by decide) h (fun i r σ1 hi hG => ?_)
  unfold M_smalls
  refine RR_n (by decide) (RR_n (by decide) ?_)
  refine S_within C (by decide) nz4 hG (fun R rest v m d σ5 ev hC => ?_) (fun F v σ1 hF hS => FS_smalls_r C hF hS _ _ _)
  have hkeep := shp_keep [40, 65, 41] rest (w ||| rb 68 (nI (i + 8))) 119 R (by decide)
  have hck : ckS (η0 X Λ σ0 start) (σ0.1 19) 119 R = ckF m d (fitR v 0 124 4) := by
    unfold ckS
    rw [ev]
    simp only []
    rw [numI_119, fitB_119, fitR_4]
  refine Out_go C (ckF_le _ _ _) hC (fun hn hG2 => ?_) (fun F hF hS => FS_smalls_r C hF hS _ _ _) (fun _ => by rw [hkeep.1, hkeep.2, hck])
  refine RR_y (by rw [hG2.f.1 14 (by decide)]; exact c10) (RR_then (G_needs C hG2 (c := 40) (by simp) rfl) (fun x σ6 h6 => ?_))
  rcases h6 with ⟨a, r2, e1, e2, e3, -⟩ | ⟨e1, e2, e3⟩
  · rw [shp_ps (by decide) e1]
    refine RR_n (by rw [e2]; decide) ?_
    refine S_reg8 C (by decide) e3 (fun i2 r3 σ7 hi2 hG3 => ?_) (fun F v σ1 hF hS => FS_smalls_110 C hF hS _ _ _ _)
    unfold M_smalls_110
    refine RR_y (by rw [hG3.f.1 14 (by decide)]; exact c10) (RR_then (G_needs C hG3 (c := 41) (by simp) rfl) (fun x σ8 h8 => ?_))
    rcases h8 with ⟨b, r4, g1, g2, g3, -⟩ | ⟨g1, g2, g3⟩
    · rw [shp_ps (by decide) g1]
      unfold M_smalls_126 M_smalls_306
      refine RR_cr (bits_pic v (b := 3) 3 3 (by decide) (by decide) (by decide) (by decide) (by decide)) (RR_cr (bits_pic v (b := 1) 2 1 (by decide) (by decide) (by decide) (by decide) (by decide)) (RR_cr (bits_pic v (b := 1) 6 1 (by decide) (by decide) (by decide) (by decide) (by decide)) (RR_then (Out_h g3 (len_h (by decide) ?_) (by rw [hck]; exact hn) (fun _ => ?_)) (fun _ _ h2 => RR_ret h2))))
      · rw [low2r _ (rb_8 i2 hi2 _ (by decide)), low2r _ (rb_8 i hi _ (by decide))]; exact hw
      · rw [ev]
        simp only []
        rw [numI_119, scat_119, rb_68i i hi, rb_65i i2 hi2]
        exact or_9 _ _ _ _ _ _
    · rw [shp_pn (by decide) g1]
      exact RR_imp (FS_smalls_126 g3 _ _ _ _) (fun _ σ' h' => Out_f (k := 1) rfl (by decide) h')
  · rw [shp_pn (by decide) e1]
    unfold M_smalls_109
    exact RR_y e2 (RR_imp (FS_smalls_110 C (fl_ne0 C (by omega)) e3 _ _ _ _) (fun _ σ' h' => Out_f (k := 1) rfl (by decide) h'))
/-! others() -/
theorem FS_others_c {F : Int32} {σ : MS} (hF : F ≠ 0) (h : FS X σ0 F σ) (x1 : Int32) (x2 r1 : Int32) (k : MS → Option (Int32 × MS)) : RR (if x1 = 33 then cl (M_word (x2 ||| (r1 <<< ((15 : Int32) &&& 31))) σ) (fun r11 σ12 => some ((0 : Int32), σ12)) else cl (M_comma N σ) (fun r3 σ4 => (if r3 = 0 then some ((0 : Int32), σ4) else k σ4))) (fun _ σ' => FS X σ0 F σ') :=
  RR_if (fun _ => RR_then (FS_word h _) (fun _ _ h2 => RR_ret h2)) (fun _ => F_comma hF h)
theorem O_33 (C : Cx N X σ0 Λ ln cur start) {ts : List AT} {B : List Int32} {σ : MS} {w : Int32} (h : GR X σ0 ts B σ) (hw : w &&& 3 = 3) : RR (M_others N 33 w σ) (fun _ σ' => OutS X Λ σ0 ln start (shp [97] ts w 0 []) B σ') := by
  unfold M_others
  refine S_reg C (by decide) h (fun j r σ1 hj hG => RR_y rfl (RR_then (E_w hG ?_ ?_) (fun _ _ h2 => RR_ret h2))) (fun F v σ1 hF hS => FS_others_c hF hS _ _ _ _)
  · rw [low2r _ (rb_pos j hj _ (by decide)), hw]
  · rw [rb_97]
theorem O_31 (C : Cx N X σ0 Λ ln cur start) {ts : List AT} {B : List Int32} {σ : MS} {w : Int32} (h : GR X σ0 ts B σ) (hw : w &&& 3 = 3) : RR (M_others N 31 w σ) (fun _ σ' => OutS X Λ σ0 ln start (shp [100, 44, 97] ts w 0 []) B σ') := by
  unfold M_others
  refine S_reg C (by decide) h (fun j r σ1 hj hG => RR_n (by decide) ?_) (fun F v σ1 hF hS => FS_others_c hF hS _ _ _ _)
  refine S_comma C hG (fun r2 σ2 hG2 => RR_n (by decide) ?_)
  unfold M_others_60
  refine S_reg C (by decide) hG2 (fun j2 r3 σ3 hj2 hG3 => RR_y rfl (RR_then (E_w hG3 ?_ ?_) (fun _ _ h2 => RR_ret h2))) (fun F v σ1 hF hS => RR_if (fun _ => RR_then (FS_word hS _) (fun _ _ h2 => RR_ret h2)) (fun _ => RR_then (FS_word hS _) (fun _ _ h2 => RR_ret h2)))
  · rw [low2r _ (rb_pos j2 hj2 _ (by decide)), low2r _ (rb_pos j hj _ (by decide)), hw]
  · rw [rb_97, rb_100]
theorem O_32 (C : Cx N X σ0 Λ ln cur start) {ts : List AT} {B : List Int32} {σ : MS} {w : Int32} (h : GR X σ0 ts B σ) (hw : w &&& 3 = 3) : RR (M_others N 32 w σ) (fun _ σ' => OutS X Λ σ0 ln start (shp [100, 44, 98] ts w 0 []) B σ') := by
  unfold M_others
  refine S_reg C (by decide) h (fun j r σ1 hj hG => RR_n (by decide) ?_) (fun F v σ1 hF hS => FS_others_c hF hS _ _ _ _)
  refine S_comma C hG (fun r2 σ2 hG2 => RR_n (by decide) ?_)
  unfold M_others_60
  refine S_reg C (by decide) hG2 (fun j2 r3 σ3 hj2 hG3 => RR_n (by decide) (RR_then (E_w hG3 ?_ ?_) (fun _ _ h2 => RR_ret h2))) (fun F v σ1 hF hS => RR_if (fun _ => RR_then (FS_word hS _) (fun _ _ h2 => RR_ret h2)) (fun _ => RR_then (FS_word hS _) (fun _ _ h2 => RR_ret h2)))
  · rw [low2r _ (rb_pos j2 hj2 _ (by decide)), low2r _ (rb_pos j hj _ (by decide)), hw]
  · rw [rb_98, rb_100]
end
