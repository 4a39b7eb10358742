/-! ===== the short statements ===== -/
theorem rb_8 : ∀ i, i < 8 → ∀ c ∈ ([65, 68] : List Int32), ¬ rb c (nI (i + 8)) < 0 := by decide +kernel
theorem rb_65i : ∀ i, i < 8 → rb 65 (nI (i + 8)) = nI i <<< ((7 : Int32) &&& 31) := by decide +kernel
theorem rb_68i : ∀ i, i < 8 → rb 68 (nI (i + 8)) = nI i <<< ((2 : Int32) &&& 31) := by decide +kernel
theorem and_8 : ∀ i, i < 8 → (nI (i + 8) - 8) &&& 7 = nI i := by decide +kernel
theorem rb_8n : ∀ j, j < 32 → ¬ (8 ≤ nI j ∧ nI j ≤ 15) → ∀ c ∈ ([65, 68] : List Int32), rb c (nI j) < 0 := by decide +kernel
theorem rb_Ny : ∀ j, j < 32 → (nI j ≠ 0 → ¬ rb 110 (nI j) < 0 ∧ ¬ rb 109 (nI j) < 0) ∧ (nI j ≠ 2 → ¬ rb 108 (nI j) < 0) := by decide +kernel
theorem rb_Nn : rb 110 0 < 0 ∧ rb 109 0 < 0 ∧ rb 108 2 < 0 := by decide +kernel
section
variable {N : Nat} {X : List Int32} {σ0 : MS} {Λ : List Lb} {ln cur start : Nat}
theorem S_reg8 (C : Cx N X σ0 Λ ln cur start) {c : Int32} {sh : List Int32} {ts : List AT} {w mk : Int32} {R : List XSt} {B : List Int32} {σ : MS} {k : Int32 → MS → Option (Int32 × MS)} (hc : c ∈ ([65, 68] : List Int32)) (h : GR X σ0 ts B σ)
    (good : ∀ i r σ1, i < 8 → GR X σ0 r B σ1 → RR (k (nI i) σ1) (fun _ σ' => OutS X Λ σ0 ln start (shp sh r (w ||| rb c (nI (i + 8))) mk R) B σ'))
    (bad : ∀ F v σ1, F ≠ 0 → FS X σ0 F σ1 → RR (k v σ1) (fun _ σ' => FS X σ0 F σ')) : RR (cl (M_near8 N σ) k) (fun _ σ' => OutS X Λ σ0 ln start (shp (c :: sh) ts w mk R) B σ') := by
  have hp : ¬ (c = 44 ∨ c = 40 ∨ c = 41) ∧ isRM c = true := by
    simp only [List.mem_cons, List.not_mem_nil, or_false] at hc
    rcases hc with h | h <;> subst h <;> decide
  refine RR_then (G_near8 C h) (fun v σ1 h1 => ?_)
  simp only [shp]
  rw [if_neg hp.1, if_pos hp.2]
  rcases h1 with ⟨e1, e2, e3, e4⟩ | ⟨e1, e2, e3⟩ | ⟨e1, e3⟩
  · obtain ⟨j, j1, j2⟩ := tkR_n e1
    rw [j2] at e2
    have hj8 : 8 ≤ j ∧ j ≤ 15 := by
      have h1 := e2.1
      have h2 := e2.2
      rw [show (8 : Int32) = nI 8 from rfl, nI_leI (by omega) (by omega)] at h1
      rw [show (15 : Int32) = nI 15 from rfl, nI_leI (by omega) (by omega)] at h2
      exact ⟨h1, h2⟩
    obtain ⟨i, rfl⟩ : ∃ i, j = i + 8 := ⟨j - 8, by omega⟩
    have er : regT c ts = (0, rb c (nI (i + 8)), (tkR ts).2.2) := by
      unfold regT
      rw [if_neg (fun z => z e1), j2, if_neg (rb_8 i (by omega) c hc)]
    rw [er, if_pos rfl, e3, j2, and_8 i (by omega)]
    exact good i _ σ1 (by omega) e4
  · obtain ⟨j, j1, j2⟩ := tkR_n e1
    rw [j2] at e2
    have er : regT c ts = (3, 0, []) := by
      unfold regT
      rw [if_neg (fun z => z e1), j2, if_pos (rb_8n j j1 e2 c hc)]
    rw [er, if_neg (by decide)]
    exact RR_imp (bad _ v σ1 (fl_ne0 C (by omega)) e3) (fun _ σ' h' => Out_f (k := 3) rfl (by decide) h')
  · have er : regT c ts = ((tkR ts).1, 0, []) := by
      unfold regT
      rw [if_pos e1]
    rw [er, if_neg e1]
    exact RR_imp (bad _ v σ1 (fl_ne0 C ⟨by omega, tkR_le ts⟩) e3) (fun _ σ' h' => Out_f rfl e1 h')
theorem S_regN (C : Cx N X σ0 Λ ln cur start) {c x : Int32} {sh : List Int32} {ts : List AT} {w mk : Int32} {R : List XSt} {B : List Int32} {σ : MS} {k : Int32 → MS → Option (Int32 × MS)} {k2 : Int32 → Int32 → MS → Option (Int32 × MS)} (hc : (c = 110 ∧ x = 0) ∨ (c = 108 ∧ x = 2) ∨ (c = 109 ∧ x = 0)) (hk : ∀ v σ, k v σ = cl (M_not v x σ) (k2 v)) (h : GR X σ0 ts B σ)
    (good : ∀ j r σ1, j < 32 → ¬ rb c (nI j) < 0 → nI j ≠ x → GR X σ0 r B σ1 → RR (k2 (nI j) (nI j) σ1) (fun _ σ' => OutS X Λ σ0 ln start (shp sh r (w ||| rb c (nI j)) mk R) B σ'))
    (bad : ∀ F v v2 σ1, F ≠ 0 → FS X σ0 F σ1 → RR (k2 v v2 σ1) (fun _ σ' => FS X σ0 F σ')) : RR (cl (M_taken N σ) k) (fun _ σ' => OutS X Λ σ0 ln start (shp (c :: sh) ts w mk R) B σ') := by
  have hp : ¬ (c = 44 ∨ c = 40 ∨ c = 41) ∧ isRM c = true := by
    rcases hc with h | h | h <;> (obtain ⟨h1, h2⟩ := h; subst h1; decide)
  refine RR_then (G_taken C h) (fun v σ1 h1 => ?_)
  rw [hk]
  simp only [shp]
  rw [if_neg hp.1, if_pos hp.2]
  rcases h1 with ⟨e1, e2, e3⟩ | ⟨e1, e2, e3⟩
  · obtain ⟨j, j1, j2⟩ := tkR_n e1
    rw [e2, j2]
    refine RR_then (G_not C e3 (nI j) x) (fun v2 σ2 h2 => ?_)
    rcases h2 with ⟨f1, f2, f3⟩ | ⟨f1, f3⟩
    · have hr : ¬ rb c (nI j) < 0 := by
        have hy := rb_Ny j j1
        rcases hc with ⟨h1, h2⟩ | ⟨h1, h2⟩ | ⟨h1, h2⟩ <;> subst h1 <;> subst h2
        · exact (hy.1 f1).1
        · exact hy.2 f1
        · exact (hy.1 f1).2
      have er : regT c ts = (0, rb c (nI j), (tkR ts).2.2) := by
        unfold regT
        rw [if_neg (fun z => z e1), j2, if_neg hr]
      rw [er, if_pos rfl, f2]
      exact good j _ σ2 j1 hr f1 f3
    · have er : regT c ts = (3, 0, []) := by
        unfold regT
        rw [if_neg (fun z => z e1), j2, f1]
        rcases hc with ⟨h1, h2⟩ | ⟨h1, h2⟩ | ⟨h1, h2⟩ <;> subst h1 <;> subst h2
        · rw [if_pos rb_Nn.1]
        · rw [if_pos rb_Nn.2.2]
        · rw [if_pos rb_Nn.2.1]
      rw [er, if_neg (by decide)]
      exact RR_imp (bad _ _ v2 σ2 (fl_ne0 C (by omega)) f3) (fun _ σ' h' => Out_f (k := 3) rfl (by decide) h')
  · have er : regT c ts = ((tkR ts).1, 0, []) := by
      unfold regT
      rw [if_pos e1]
    rw [er, if_neg e1]
    refine RR_then (FS_not (fl_ne0 C ⟨by omega, tkR_le ts⟩) e3 _ _) (fun v2 σ2 h2 => ?_)
    exact RR_imp (bad _ _ v2 σ2 (fl_ne0 C ⟨by omega, tkR_le ts⟩) h2) (fun _ σ' h' => Out_f rfl e1 h')
theorem FS_notZero {F : Int32} {σ : MS} (hF : F ≠ 0) (h : FS X σ0 F σ) (v : Int32) : RR (M_notZero v σ) (fun _ σ' => FS X σ0 F σ') := by
  unfold M_notZero M_notZero_18
  exact RR_if (fun _ => RR_if (fun _ => RR_then (FS_blame hF h) (fun _ _ h2 => RR_ret h2)) (fun _ => RR_ret h)) (fun _ => RR_ret h)
theorem G_notZero (C : Cx N X σ0 Λ ln cur start) {ts : List AT} {B : List Int32} {σ : MS} {m d f : Bool} (h : CK X σ0 ln (ckF m d f) (GR X σ0 ts B) σ) (v : Int32) : RR (M_notZero v σ) (fun _ σ' => CK X σ0 ln (ckF m d (f && !(decide (v = 0)))) (GR X σ0 ts B) σ') := by
  have h17 : σ.1 17 = σ0.1 17 := h.num (by decide)
  rcases h.cases with ⟨c1, c2, c3⟩ | ⟨c1, c2⟩
  · refine RR_imp (FS_notZero (fl_ne0 C ⟨by omega, ckF_le m d f⟩) c3 v) (fun _ σ' h' => ?_)
    have e : ckF m d (f && !(decide (v = 0))) = ckF m d f := by
      revert c2
      cases m <;> cases d <;> cases f <;> simp [ckF]
    rw [e]
    exact CK.y c1 c2 h'
  · unfold M_notZero M_notZero_18
    rw [h17]
    refine RR_if (fun c => RR_if (fun z => ?_) (fun z => RR_ret ?_)) (fun c => RR_ret (CK.n (fun y => c y.1) c2))
    · have e : ckF m d f = 0 := Decidable.not_not.mp (fun y => c1 ⟨c, y⟩)
      have e2 : ckF m d (f && !(decide (v = 0))) = 10 := by
        revert e
        rw [decide_eq_true z]
        cases m <;> cases d <;> cases f <;> simp [ckF]
      rw [e2]
      exact RR_then (G_blame C c2.f c2.at9 10 (k := 10) rfl) (fun _ σ2 h2 => RR_ret (CK.y c (by decide) h2.1))
    · rw [decide_eq_false z, Bool.not_false, Bool.and_true]
      exact CK.n c1 c2
theorem FS_shorts_221 {F : Int32} {σ : MS} (hF : F ≠ 0) (h : FS X σ0 F σ) (x1 x2 x3 x4 x5 : Int32) : RR (M_shorts_221 N x1 x2 x3 x4 x5 σ) (fun _ σ' => FS X σ0 F σ') := by
  unfold M_shorts_221
  exact F_comma hF h
theorem FS_shorts_195 {F : Int32} {σ : MS} (hF : F ≠ 0) (h : FS X σ0 F σ) (x1 x2 x3 x4 : Int32) : RR (M_shorts_195 N x1 x2 x3 x4 σ) (fun _ σ' => FS X σ0 F σ') := by
  unfold M_shorts_195 M_shorts_206
  exact RR_if (fun _ => RR_if (fun _ => FS_shorts_221 hF h _ _ _ _ _) (fun _ => RR_then (FS_not hF h _ _) (fun _ _ h2 => FS_shorts_221 hF h2 _ _ _ _ _))) (fun _ => RR_if (fun _ => FS_shorts_221 hF h _ _ _ _ _) (fun _ => RR_then (FS_not hF h _ _) (fun _ _ h2 => FS_shorts_221 hF h2 _ _ _ _ _)))
theorem FS_shorts_156 {F : Int32} {σ : MS} (hF : F ≠ 0) (h : FS X σ0 F σ) (x1 x2 x3 t0 : Int32) : RR (M_shorts_156 N x1 x2 x3 t0 σ) (fun _ σ' => FS X σ0 F σ') := by
  unfold M_shorts_156
  exact RR_if (fun _ => RR_then (FS_not hF h _ _) (fun _ _ h2 => RR_then (FS_half h2 _) (fun _ _ h3 => RR_ret h3))) (fun _ => RR_if (fun _ => RR_then (FS_not hF h _ _) (fun _ _ h2 => FS_shorts_195 hF h2 _ _ _ _)) (fun _ => FS_shorts_195 hF h _ _ _ _))
/-- to the comma of a short statement -/
theorem Sh_pre {s w j : Int32} {sm : Int32} {σ : MS} {Q : Int32 → MS → Prop} (h1 : ¬ s = 27) (h2 : ¬ s = 26) (h3 : ¬ s = 18) (h : RR (M_shorts_221 N s w sm j 0 σ) Q) : RR (M_shorts_156 N s w sm j σ) Q := by
  unfold M_shorts_156 M_shorts_195 M_shorts_206
  exact RR_n h1 (RR_n h2 (RR_n h3 (RR_y rfl h)))
theorem M_small {s w : Int32} {σ : MS} (h1 : ¬ s = 19) (h2 : ¬ s = 20) (h : s < 16 ∨ (¬ s < 16 ∧ ¬ s ≤ 20 ∧ ¬ 25 ≤ s)) : M_shorts N s w σ = cl (M_near8 N σ) (fun r3 σ4 => M_shorts_156 N s w 1 r3 σ4) := by
  unfold M_shorts M_shorts_135 M_shorts_139 M_shorts_140
  rw [if_neg h1, if_neg h2]
  rcases h with h | ⟨h3, h4, h5⟩
  · rw [if_pos h, if_neg (by decide)]
  · rw [if_neg h3, if_neg h4, if_neg h5, if_neg (by decide)]
theorem M_large {s w : Int32} {σ : MS} (h1 : ¬ s = 19) (h2 : ¬ s = 20) (h3 : ¬ s < 16) (h : s ≤ 20 ∨ (¬ s ≤ 20 ∧ 25 ≤ s)) : M_shorts N s w σ = cl (M_taken N σ) (fun r3 σ4 => M_shorts_156 N s w 0 r3 σ4) := by
  unfold M_shorts M_shorts_135 M_shorts_139 M_shorts_140
  rw [if_neg h1, if_neg h2, if_neg h3]
  rcases h with h | ⟨h4, h5⟩
  · rw [if_pos h, if_pos rfl]
  · rw [if_neg h4, if_pos h5, if_pos rfl]
theorem H_17 (C : Cx N X σ0 Λ ln cur start) {ts : List AT} {B : List Int32} {σ : MS} {w : Int32} (h : GR X σ0 ts B σ) (hw : ¬ w &&& 3 = 3) : RR (M_shorts N 17 w σ) (fun _ σ' => OutS X Λ σ0 ln start (shp [100, 44, 78] ts w 0 []) B σ') := by
  rw [M_large (by decide) (by decide) (by decide) (Or.inl (by decide))]
  refine S_reg C (by decide) h (fun j r σ1 hj hG => Sh_pre (by decide) (by decide) (by decide) ?_) (fun F v σ1 hF hS => FS_shorts_156 hF hS _ _ _ _)
  unfold M_shorts_221 M_shorts_287 M_shorts_341 M_plainSix M_plainSix_21
  refine S_comma C hG (fun r2 σ2 hG2 => RR_y rfl (RR_n (by decide) (RR_y rfl (RR_then (P := fun _ σ' => OutS X Λ σ0 ln start (shp [78] r2 (w ||| rb 100 (nI j)) 0 []) B σ') ?_ (fun _ _ h2 => RR_ret h2)))))
  refine S_within C (by decide) nz1 hG2 (fun R rest v m d σ5 ev hC => RR_y rfl (RR_cr (M_six_eq v) ?_)) (fun F v σ1 hF hS => RR_y rfl (RR_cr (M_six_eq v) (RR_then (FS_half hS _) (fun _ _ h2 => RR_ret h2))))
  refine RR_then (E_hx C (by decide) ev hC (by rw [numI_78, fitB_78, fitR_1]) ?_ (fun _ => ?_)) (fun _ _ h2 => RR_ret h2)
  · rw [low2r _ (rb_pos j hj _ (by decide))]; exact hw
  · rw [numI_78, rb_100]
theorem H_18 (C : Cx N X σ0 Λ ln cur start) {ts : List AT} {B : List Int32} {σ : MS} {w : Int32} (h : GR X σ0 ts B σ) (hw : ¬ w &&& 3 = 3) : RR (M_shorts N 18 w σ) (fun _ σ' => OutS X Λ σ0 ln start (shp [108, 44, 85] ts w 0 []) B σ') := by
  rw [M_large (by decide) (by decide) (by decide) (Or.inl (by decide))]
  refine S_regN C (k2 := fun v _ σ2 => M_shorts_221 N 18 w 0 v 1 σ2) (Or.inr (Or.inl ⟨rfl, rfl⟩)) (fun v σ => ?_) h (fun j r σ1 hj hr hn hG => ?_) (fun F v v2 σ1 hF hS => FS_shorts_221 hF hS _ _ _ _ _)
  · unfold M_shorts_156 M_shorts_195 M_shorts_206
    rw [if_neg (by decide), if_neg (by decide), if_pos rfl, if_neg (by decide)]
  unfold M_shorts_221 M_shorts_287 M_shorts_341 M_plainSix M_plainSix_21
  refine S_comma C hG (fun r2 σ2 hG2 => RR_y rfl (RR_n (by decide) (RR_n (by decide) (RR_n (by decide) (RR_then (P := fun _ σ' => OutS X Λ σ0 ln start (shp [85] r2 (w ||| rb 108 (nI j)) 0 []) B σ') ?_ (fun _ _ h2 => RR_ret h2))))))
  refine S_within C (by decide) nz1 hG2 (fun R rest v m d σ5 ev hC => RR_n (by decide) (RR_then (G_notZero C hC v) (fun _ σ6 hC6 => RR_cr (M_six_eq v) ?_))) (fun F v σ1 hF hS => RR_n (by decide) (RR_then (FS_notZero hF hS v) (fun _ σ6 h6 => RR_cr (M_six_eq v) (RR_then (FS_half h6 _) (fun _ _ h2 => RR_ret h2)))))
  refine RR_then (E_hx C (by decide) ev hC6 (by rw [numI_85, fitB_85, fitR_1]) ?_ (fun _ => ?_)) (fun _ _ h2 => RR_ret h2)
  · rw [low2r _ hr]; exact hw
  · rw [numI_85, scat_85, scat_78, rb_108, if_neg hn]
theorem H_25 (C : Cx N X σ0 Λ ln cur start) {ts : List AT} {B : List Int32} {σ : MS} {w : Int32} (h : GR X σ0 ts B σ) (hw : ¬ w &&& 3 = 3) : RR (M_shorts N 25 w σ) (fun _ σ' => OutS X Λ σ0 ln start (shp [100, 44, 72] ts w 0 []) B σ') := by
  rw [M_large (by decide) (by decide) (by decide) (Or.inr (by decide))]
  refine S_reg C (by decide) h (fun j r σ1 hj hG => Sh_pre (by decide) (by decide) (by decide) ?_) (fun F v σ1 hF hS => FS_shorts_156 hF hS _ _ _ _)
  unfold M_shorts_221 M_shorts_341
  refine S_comma C hG (fun r2 σ2 hG2 => RR_y rfl (RR_n (by decide) (RR_n (by decide) (RR_y rfl (RR_y rfl ?_)))))
  refine S_within C (by decide) nz1 hG2 (fun R rest v m d σ5 ev hC => ?_) (fun F v σ1 hF hS => RR_then (FS_half hS _) (fun _ _ h2 => RR_ret h2))
  refine RR_then (E_hx C (by decide) ev hC (by rw [numI_72, fitB_72, fitR_1]) ?_ (fun z => ?_)) (fun _ _ h2 => RR_ret h2)
  · rw [low2r _ (rb_pos j hj _ (by decide))]; exact hw
  · rw [fitR_1] at z
    rw [numI_72, scat_72, rb_100, in31 z]
theorem H_27 (C : Cx N X σ0 Λ ln cur start) {ts : List AT} {B : List Int32} {σ : MS} {w : Int32} (h : GR X σ0 ts B σ) (hw : ¬ w &&& 3 = 3) : RR (M_shorts N 27 w σ) (fun _ σ' => OutS X Λ σ0 ln start (shp [110] ts w 0 []) B σ') := by
  rw [M_large (by decide) (by decide) (by decide) (Or.inr (by decide))]
  refine S_regN C (k2 := fun _ r3 σ4 => cl (M_half (w ||| (r3 <<< ((7 : Int32) &&& 31))) σ4) (fun r5 σ6 => some ((0 : Int32), σ6))) (Or.inl ⟨rfl, rfl⟩) (fun v σ => ?_) h (fun j r σ1 hj hr hn hG => ?_) (fun F v v2 σ1 hF hS => RR_then (FS_half hS _) (fun _ _ h2 => RR_ret h2))
  · unfold M_shorts_156
    rw [if_pos rfl]
  refine RR_then (E_h hG ?_ ?_) (fun _ _ h2 => RR_ret h2)
  · rw [low2r _ hr]; exact hw
  · rw [rb_110, if_neg hn]
theorem H_28 (C : Cx N X σ0 Λ ln cur start) {ts : List AT} {B : List Int32} {σ : MS} {w : Int32} (h : GR X σ0 ts B σ) (hw : ¬ w &&& 3 = 3) : RR (M_shorts N 28 w σ) (fun _ σ' => OutS X Λ σ0 ln start (shp [100, 44, 109] ts w 0 []) B σ') := by
  rw [M_large (by decide) (by decide) (by decide) (Or.inr (by decide))]
  refine S_reg C (by decide) h (fun j r σ1 hj hG => Sh_pre (by decide) (by decide) (by decide) ?_) (fun F v σ1 hF hS => FS_shorts_156 hF hS _ _ _ _)
  unfold M_shorts_221 M_shorts_341
  refine S_comma C hG (fun r2 σ2 hG2 => RR_y rfl (RR_y rfl ?_))
  refine S_regN C (k2 := fun _ r11 σ12 => cl (M_half ((w ||| (nI j <<< ((7 : Int32) &&& 31))) ||| (r11 <<< ((2 : Int32) &&& 31))) σ12) (fun r13 σ14 => some ((0 : Int32), σ14))) (Or.inr (Or.inr ⟨rfl, rfl⟩)) (fun v σ => rfl) hG2 (fun j2 r3 σ3 hj2 hr hn hG3 => ?_) (fun F v v2 σ1 hF hS => RR_then (FS_half hS _) (fun _ _ h2 => RR_ret h2))
  refine RR_then (E_h hG3 ?_ ?_) (fun _ _ h2 => RR_ret h2)
  · rw [low2r _ hr, low2r _ (rb_pos j hj _ (by decide))]; exact hw
  · rw [rb_109, if_neg hn, rb_100]
theorem nz4 : nz 4 = true := by decide
theorem H_26 (C : Cx N X σ0 Λ ln cur start) {ts : List AT} {B : List Int32} {σ : MS} {w : Int32} (h : GR X σ0 ts B σ) (hw : ¬ w &&& 3 = 3) : RR (M_shorts N 26 w σ) (fun _ σ' => OutS X Λ σ0 ln start (shp [110, 44, 76] ts w 0 []) B σ') := by
  rw [M_large (by decide) (by decide) (by decide) (Or.inr (by decide))]
  refine S_regN C (k2 := fun v _ σ2 => M_shorts_195 N 26 w 0 v σ2) (Or.inl ⟨rfl, rfl⟩) (fun v σ => ?_) h (fun j r σ1 hj hr hn hG => ?_) (fun F v v2 σ1 hF hS => FS_shorts_195 hF hS _ _ _ _)
  · unfold M_shorts_156
    rw [if_neg (by decide), if_pos rfl]
  unfold M_shorts_195 M_shorts_206 M_shorts_221 M_shorts_341 M_stacked M_stacked_84
  refine RR_n (by decide) (RR_y rfl (S_comma C hG (fun r2 σ2 hG2 => RR_y rfl (RR_n (by decide) (RR_n (by decide) (RR_y rfl (RR_n (by decide) (RR_then (P := fun _ σ' => OutS X Λ σ0 ln start (shp [76] r2 (w ||| rb 110 (nI j)) 0 []) B σ') ?_ (fun _ _ h2 => RR_ret h2)))))))))
  refine S_within C (by decide) nz4 hG2 (fun R rest v m d σ5 ev hC => RR_y rfl (RR_cr (bits_pic v (b := 1) 5 1 (by decide) (by decide) (by decide) (by decide) (by decide)) (RR_cr (bits_pic v (b := 3) 2 3 (by decide) (by decide) (by decide) (by decide) (by decide)) (RR_cr (bits_pic v (b := 2) 6 2 (by decide) (by decide) (by decide) (by decide) (by decide)) ?_)))) (fun F v σ1 hF hS => RR_y rfl (RR_cr rfl (RR_cr rfl (RR_cr rfl (RR_then (FS_half hS _) (fun _ _ h2 => RR_ret h2))))))
  refine RR_then (E_hx C (by decide) ev hC (by rw [numI_76, fitB_76, fitR_4]) ?_ (fun _ => ?_)) (fun _ _ h2 => RR_ret h2)
  · rw [low2r _ hr]; exact hw
  · rw [numI_76, scat_76, rb_110, if_neg hn]
    exact or_6 _ _ _ _ _
theorem H_29 (C : Cx N X σ0 Λ ln cur start) {ts : List AT} {B : List Int32} {σ : MS} {w : Int32} (h : GR X σ0 ts B σ) (hw : ¬ w &&& 3 = 3) : RR (M_shorts N 29 w σ) (fun _ σ' => OutS X Λ σ0 ln start (shp [115, 44, 83] ts w 0 []) B σ') := by
  rw [M_large (by decide) (by decide) (by decide) (Or.inr (by decide))]
  refine S_reg C (by decide) h (fun j r σ1 hj hG => Sh_pre (by decide) (by decide) (by decide) ?_) (fun F v σ1 hF hS => FS_shorts_156 hF hS _ _ _ _)
  unfold M_shorts_221 M_shorts_341 M_stacked M_stacked_84
  refine S_comma C hG (fun r2 σ2 hG2 => RR_y rfl (RR_n (by decide) (RR_n (by decide) (RR_y rfl (RR_n (by decide) (RR_then (P := fun _ σ' => OutS X Λ σ0 ln start (shp [83] r2 (w ||| rb 115 (nI j)) 0 []) B σ') ?_ (fun _ _ h2 => RR_ret h2)))))))
  refine S_within C (by decide) nz4 hG2 (fun R rest v m d σ5 ev hC => RR_n (by decide) (RR_cr (bits_pic v (b := 4) 2 4 (by decide) (by decide) (by decide) (by decide) (by decide)) (RR_cr (bits_pic v (b := 2) 6 2 (by decide) (by decide) (by decide) (by decide) (by decide)) ?_))) (fun F v σ1 hF hS => RR_n (by decide) (RR_cr rfl (RR_cr rfl (RR_then (FS_half hS _) (fun _ _ h2 => RR_ret h2)))))
  refine RR_then (E_hx C (by decide) ev hC (by rw [numI_83, fitB_83, fitR_4]) ?_ (fun _ => ?_)) (fun _ _ h2 => RR_ret h2)
  · rw [low2r _ (rb_pos j hj _ (by decide))]; exact hw
  · rw [numI_83, scat_83, rb_115]
    exact or_4 _ _ _ _
end
