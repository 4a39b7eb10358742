/-! ===== shapes: what both programs read of a statement ===== -/
theorem reg3_n : ∀ k, k < 100 → ∀ c ∈ ([120, 97, 116, 115] : List Int32), 0 ≤ reg3 c (nI k) → (reg3 c (nI k)).toNatClampNeg < 32 := by decide +kernel
theorem nI_ofc {x : Int32} (h : 0 ≤ x) : x = nI x.toNatClampNeg := by
  obtain ⟨j, h1, rfl⟩ := nI_ofNeg (Int32.not_lt.mpr h)
  rw [nI_clamp h1]
theorem dg_n {c : Int32} (h : isDg c = true) : ∃ k, 48 ≤ k ∧ k ≤ 57 ∧ c = nI k := by
  simp only [isDg, Bool.and_eq_true, decide_eq_true_eq] at h
  exact i_sub (a := 48) (b := 57) h.1 h.2 (by decide) (by decide)
theorem regR_n {nm : List Int32} (h : 0 ≤ regR nm) : ∃ j, j < 32 ∧ regR nm = nI j := by
  unfold regR at h ⊢
  by_cases a0 : pk nm = 4006234
  · rw [if_pos a0]
    exact ⟨0, by decide, rfl⟩
  rw [if_neg a0] at h ⊢
  by_cases a1 : pk nm = 82
  · rw [if_pos a1]
    exact ⟨1, by decide, rfl⟩
  rw [if_neg a1] at h ⊢
  by_cases a2 : pk nm = 1043
  · rw [if_pos a2]
    exact ⟨2, by decide, rfl⟩
  rw [if_neg a2] at h ⊢
  by_cases a3 : pk nm = 1031
  · rw [if_pos a3]
    exact ⟨3, by decide, rfl⟩
  rw [if_neg a3] at h ⊢
  by_cases a4 : pk nm = 1044
  · rw [if_pos a4]
    exact ⟨4, by decide, rfl⟩
  rw [if_neg a4] at h ⊢
  by_cases a5 : pk nm = 1030
  · rw [if_pos a5]
    exact ⟨8, by decide, rfl⟩
  rw [if_neg a5] at h ⊢
  by_cases hl : nm.length = 2 ∨ nm.length = 3
  · rw [if_pos hl] at h ⊢
    by_cases hd : isDg (nm.getD 1 0) = true
    · rw [if_pos hd] at h ⊢
      obtain ⟨k, k1, k2, ek⟩ := dg_n hd
      have hx : ∃ x, x < 100 ∧ (if nm.length = 3 then (if nm.getD 1 0 - 48 = 0 then 99 else if isDg (nm.getD 2 0) = true then (10 * (nm.getD 1 0 - 48) + nm.getD 2 0) - 48 else 99) else nm.getD 1 0 - 48) = nI x := by
        have e1 : nm.getD 1 0 - 48 = nI (k - 48) := by rw [ek]; exact pk_sub (a := k) (b := 48) k1
        by_cases l3 : nm.length = 3
        · rw [if_pos l3]
          by_cases z0 : nm.getD 1 0 - 48 = 0
          · rw [if_pos z0]; exact ⟨99, by decide, rfl⟩
          · rw [if_neg z0]
            by_cases hd2 : isDg (nm.getD 2 0) = true
            · rw [if_pos hd2]
              obtain ⟨j, j1, j2, ej⟩ := dg_n hd2
              refine ⟨10 * (k - 48) + j - 48, by omega, ?_⟩
              rw [e1, ej, show (10 : Int32) * nI (k - 48) = nI (10 * (k - 48)) from (Int32.ofNat_mul 10 (k - 48)).symm, nI_add]
              exact pk_sub (a := 10 * (k - 48) + j) (b := 48) (by omega)
            · rw [if_neg hd2]; exact ⟨99, by decide, rfl⟩
        · rw [if_neg l3]; exact ⟨k - 48, by omega, e1⟩
      obtain ⟨x, x1, x2⟩ := hx
      rw [x2] at h ⊢
      by_cases hc : nm.getD 0 0 ∈ ([120, 97, 116, 115] : List Int32)
      · exact ⟨_, reg3_n x x1 _ hc h, nI_ofc h⟩
      · exfalso
        simp only [List.mem_cons, List.not_mem_nil, or_false, not_or] at hc
        have : reg3 (nm.getD 0 0) (nI x) = -1 := by
          unfold reg3
          rw [if_neg hc.1, if_neg hc.2.1, if_neg hc.2.2.1, if_neg hc.2.2.2]
        rw [this] at h
        exact absurd h (by decide)
    · rw [if_neg hd] at h
      exact absurd h (by decide)
  · rw [if_neg hl] at h
    exact absurd h (by decide)
theorem tkR_n {ts : List AT} (h : (tkR ts).1 = 0) : ∃ j, j < 32 ∧ (tkR ts).2.1 = nI j := by
  cases ts with
  | nil => exact absurd h (by decide)
  | cons a r =>
    have e : tkR (a :: r) = if a.k = 0 ∨ a.k = 1 then (1, 0, []) else if a.k = 2 ∧ 0 ≤ regR a.nm then (0, regR a.nm, r) else (3, 0, []) := rfl
    rw [e] at h ⊢
    split
    · rename_i c
      rw [if_pos c] at h
      exact absurd h (by decide)
    · rename_i c
      rw [if_neg c] at h
      split
      · rename_i d
        exact regR_n d.2
      · rename_i d
        rw [if_neg d] at h
        exact absurd h (by decide)
def isRM (c : Int32) : Bool := decide (c = 100 ∨ c = 97 ∨ c = 98 ∨ c = 115 ∨ c = 110 ∨ c = 108 ∨ c = 109 ∨ c = 68 ∨ c = 65)
def regT (mk : Int32) (ts : List AT) : Nat × Int32 × List AT := if (tkR ts).1 ≠ 0 then ((tkR ts).1, 0, []) else if rb mk (tkR ts).2.1 < 0 then (3, 0, []) else (0, rb mk (tkR ts).2.1, (tkR ts).2.2)
/-- fault, word, mark, steps, what is left -/
abbrev SR : Type := Nat × Int32 × Int32 × List XSt × List AT
def shp : List Int32 → List AT → Int32 → Int32 → List XSt → SR
  | [], ts, w, q, R => (0, w, q, R, ts)
  | c :: sh, ts, w, q, R =>
    if c = 44 ∨ c = 40 ∨ c = 41 then (match tk1 c ts with
      | some x => shp sh x.2 w q R
      | none => (1, w, q, R, ts))
    else if isRM c = true then (if (regT c ts).1 = 0 then shp sh (regT c ts).2.2 (w ||| (regT c ts).2.1) q R else ((regT c ts).1, w, q, R, ts))
    else match cmpT ts with
      | some x => shp sh x.2 w c (R ++ x.1)
      | none => (1, w, q, R, ts)
theorem shp_ps {c : Int32} {sh : List Int32} {ts r : List AT} {a : AT} {w q : Int32} {R : List XSt} (hc : c = 44 ∨ c = 40 ∨ c = 41) (h : tk1 c ts = some (a, r)) : shp (c :: sh) ts w q R = shp sh r w q R := by
  rw [shp, if_pos hc, h]
theorem shp_pn {c : Int32} {sh : List Int32} {ts : List AT} {w q : Int32} {R : List XSt} (hc : c = 44 ∨ c = 40 ∨ c = 41) (h : tk1 c ts = none) : shp (c :: sh) ts w q R = (1, w, q, R, ts) := by
  rw [shp, if_pos hc, h]
def numI (mk v a : Int32) : Int32 := if mk = 106 ∨ mk = 74 ∨ mk = 66 then v - a else v
def ckS (η : Int32 → AT → Int32 × Bool) (a mk : Int32) (R : List XSt) : Nat := ckF (evV η R).2.1 (evV η R).2.2 (fitB mk (numI mk (evV η R).1 a))
section
variable {N : Nat} {X : List Int32} {σ0 : MS} {Λ : List Lb} {ln cur start : Nat}
/-- what a statement of one shape leaves -/
def OutS (X : List Int32) (Λ : List Lb) (σ0 : MS) (ln start : Nat) (s : SR) (B : List Int32) (σ : MS) : Prop :=
  if s.1 ≠ 0 then (σ0.1 17 = 2 ∨ FS X σ0 (fl ln s.1) σ) else CK X σ0 ln (ckS (η0 X Λ σ0 start) (σ0.1 19) s.2.2.1 s.2.2.2.1) (fun σ => ∃ Bs, GR X σ0 s.2.2.2.2 (B ++ Bs) σ ∧ nI Bs.length = len0 s.2.2.1 s.2.1 ∧ Bs.length ≤ 8 ∧ (ckS (η0 X Λ σ0 start) (σ0.1 19) s.2.2.1 s.2.2.2.1 = 0 → Bs = wB (s.2.1 ||| scat s.2.2.1 (numI s.2.2.1 (evV (η0 X Λ σ0 start) s.2.2.2.1).1 (σ0.1 19))) Bs.length)) σ
theorem Out_f {s : SR} {B : List Int32} {σ : MS} {k : Nat} (h : s.1 = k) (hk : k ≠ 0) (hF : FS X σ0 (fl ln k) σ) : OutS X Λ σ0 ln start s B σ := by
  unfold OutS
  rw [h, if_pos hk]
  exact Or.inr hF
theorem Out_c {s : SR} {B : List Int32} {σ : MS} {f : Nat} (h17 : σ0.1 17 = 2) (hf : f ≠ 0) (hs : s.1 = 0 → ckS (η0 X Λ σ0 start) (σ0.1 19) s.2.2.1 s.2.2.2.1 = f) (hF : FS X σ0 (fl ln f) σ) : OutS X Λ σ0 ln start s B σ := by
  unfold OutS
  by_cases c : s.1 = 0
  · rw [if_neg (fun z => z c), hs c]
    exact CK.y h17 hf hF
  · rw [if_pos c]
    exact Or.inl h17
theorem Out_go (C : Cx N X σ0 Λ ln cur start) {s : SR} {r : List AT} {B : List Int32} {σ : MS} {f : Nat} {o : Option (Int32 × MS)} (hfl : f ≤ 15) (h : CK X σ0 ln f (GR X σ0 r B) σ) (hg : ¬ (σ0.1 17 = 2 ∧ f ≠ 0) → GR X σ0 r B σ → RR o (fun _ σ' => OutS X Λ σ0 ln start s B σ')) (hf : ∀ F, F ≠ 0 → FS X σ0 F σ → RR o (fun _ σ' => FS X σ0 F σ')) (hs : s.1 = 0 → ckS (η0 X Λ σ0 start) (σ0.1 19) s.2.2.1 s.2.2.2.1 = f) : RR o (fun _ σ' => OutS X Λ σ0 ln start s B σ') := by
  rcases h.cases with ⟨c1, c2, c3⟩ | ⟨c1, c2⟩
  · exact RR_imp (hf _ (fl_ne0 C ⟨by omega, hfl⟩) c3) (fun _ σ' h' => Out_c c1 c2 hs h')
  · exact hg c1 c2
theorem Out_w {w mk : Int32} {R : List XSt} {r : List AT} {B : List Int32} {σ : MS} {x : Int32} (hG : GR X σ0 r B σ) (h4 : len0 mk w = 4) (hn : ¬ (σ0.1 17 = 2 ∧ ckS (η0 X Λ σ0 start) (σ0.1 19) mk R ≠ 0)) (hx : ckS (η0 X Λ σ0 start) (σ0.1 19) mk R = 0 → x = w ||| scat mk (numI mk (evV (η0 X Λ σ0 start) R).1 (σ0.1 19))) : RR (M_word x σ) (fun _ σ' => OutS X Λ σ0 ln start (0, w, mk, R, r) B σ') := by
  refine RR_imp (G_word hG x) (fun _ σ' h' => ?_)
  unfold OutS
  rw [if_neg (fun z => z rfl)]
  refine CK.n hn ⟨wB x 4, h', by rw [wB_len, h4]; rfl, by rw [wB_len]; omega, fun z => ?_⟩
  rw [wB_len, hx z]
theorem Out_h {w mk : Int32} {R : List XSt} {r : List AT} {B : List Int32} {σ : MS} {x : Int32} (hG : GR X σ0 r B σ) (h4 : len0 mk w = 2) (hn : ¬ (σ0.1 17 = 2 ∧ ckS (η0 X Λ σ0 start) (σ0.1 19) mk R ≠ 0)) (hx : ckS (η0 X Λ σ0 start) (σ0.1 19) mk R = 0 → x = w ||| scat mk (numI mk (evV (η0 X Λ σ0 start) R).1 (σ0.1 19))) : RR (M_half x σ) (fun _ σ' => OutS X Λ σ0 ln start (0, w, mk, R, r) B σ') := by
  refine RR_imp (G_half hG x) (fun _ σ' h' => ?_)
  unfold OutS
  rw [if_neg (fun z => z rfl)]
  refine CK.n hn ⟨wB x 2, h', by rw [wB_len, h4]; rfl, by rw [wB_len]; omega, fun z => ?_⟩
  rw [wB_len, hx z]
/-- the marks of registers that any register fits -/
theorem rb_pos : ∀ j, j < 32 → ∀ c ∈ ([100, 97, 98, 115] : List Int32), ¬ rb c (nI j) < 0 := by decide +kernel
theorem S_reg (C : Cx N X σ0 Λ ln cur start) {c : Int32} {sh : List Int32} {ts : List AT} {w mk : Int32} {R : List XSt} {B : List Int32} {σ : MS} {k : Int32 → MS → Option (Int32 × MS)} (hc : c ∈ ([100, 97, 98, 115] : List Int32)) (h : GR X σ0 ts B σ)
    (good : ∀ j r σ1, j < 32 → GR X σ0 r B σ1 → RR (k (nI j) σ1) (fun _ σ' => OutS X Λ σ0 ln start (shp sh r (w ||| rb c (nI j)) mk R) B σ'))
    (bad : ∀ F v σ1, F ≠ 0 → FS X σ0 F σ1 → RR (k v σ1) (fun _ σ' => FS X σ0 F σ')) : RR (cl (M_taken N σ) k) (fun _ σ' => OutS X Λ σ0 ln start (shp (c :: sh) ts w mk R) B σ') := by
  have hp : ¬ (c = 44 ∨ c = 40 ∨ c = 41) ∧ isRM c = true := by
    simp only [List.mem_cons, List.not_mem_nil, or_false] at hc
    rcases hc with h | h | h | h <;> subst h <;> decide
  refine RR_then (G_taken C h) (fun v σ1 h1 => ?_)
  simp only [shp]
  rw [if_neg hp.1, if_pos hp.2]
  rcases h1 with ⟨e1, e2, e3⟩ | ⟨e1, e2, e3⟩
  · obtain ⟨j, j1, j2⟩ := tkR_n e1
    have er : regT c ts = (0, rb c (nI j), (tkR ts).2.2) := by
      unfold regT
      rw [if_neg (fun z => z e1), j2, if_neg (rb_pos j j1 c hc)]
    rw [er, if_pos rfl, e2, j2]
    exact good j _ σ1 j1 e3
  · have er : regT c ts = ((tkR ts).1, 0, []) := by
      unfold regT
      rw [if_pos e1]
    rw [er, if_neg e1]
    exact RR_imp (bad _ v σ1 (fl_ne0 C ⟨by omega, tkR_le ts⟩) e3) (fun _ σ' h' => Out_f rfl e1 h')
theorem S_comma (C : Cx N X σ0 Λ ln cur start) {sh : List Int32} {ts : List AT} {w mk : Int32} {R : List XSt} {B : List Int32} {σ : MS} {k : MS → Option (Int32 × MS)} (h : GR X σ0 ts B σ) (good : ∀ r σ1, GR X σ0 r B σ1 → RR (k σ1) (fun _ σ' => OutS X Λ σ0 ln start (shp sh r w mk R) B σ')) : RR (cl (M_comma N σ) (fun r1 σ2 => if r1 = 0 then some (0, σ2) else k σ2)) (fun _ σ' => OutS X Λ σ0 ln start (shp (44 :: sh) ts w mk R) B σ') := by
  refine RR_then (G_comma C h) (fun v σ1 h1 => ?_)
  rcases h1 with ⟨a, r, e1, e2, e3⟩ | ⟨e1, e2, e3⟩
  · rw [shp_ps (by decide) e1]
    exact RR_n (by rw [e2]; decide) (good r σ1 e3)
  · rw [shp_pn (by decide) e1]
    exact RR_y e2 (RR_ret (Out_f (k := 1) rfl (by decide) e3))
theorem F_comma {F : Int32} {σ : MS} {k : MS → Option (Int32 × MS)} (hF : F ≠ 0) (h : FS X σ0 F σ) : RR (cl (M_comma N σ) (fun r1 σ2 => if r1 = 0 then some (0, σ2) else k σ2)) (fun _ σ' => FS X σ0 F σ') :=
  RR_then (FS_comma hF h) (fun v σ1 h1 => RR_y h1.1 (RR_ret h1.2))
theorem S_within (C : Cx N X σ0 Λ ln cur start) {c lo hi st : Int32} {sh : List Int32} {ts : List AT} {w mk : Int32} {B : List Int32} {σ : MS} {k : Int32 → MS → Option (Int32 × MS)} (hc : ¬ (c = 44 ∨ c = 40 ∨ c = 41) ∧ isRM c = false) (hz : nz st = true) (h : GR X σ0 ts B σ)
    (good : ∀ R rest v m d σ1, evV (η0 X Λ σ0 start) R = (v, m, d) → CK X σ0 ln (ckF m d (fitR v lo hi st)) (GR X σ0 rest B) σ1 → RR (k v σ1) (fun _ σ' => OutS X Λ σ0 ln start (shp sh rest w c R) B σ'))
    (bad : ∀ F v σ1, F ≠ 0 → FS X σ0 F σ1 → RR (k v σ1) (fun _ σ' => FS X σ0 F σ')) : RR (cl (M_within N lo hi st σ) k) (fun _ σ' => OutS X Λ σ0 ln start (shp (c :: sh) ts w mk []) B σ') := by
  refine RR_then (G_within C h lo hi hz) (fun v σ1 h1 => ?_)
  simp only [shp]
  rw [if_neg hc.1, if_neg (by rw [hc.2]; decide)]
  rcases h1 with ⟨e1, e2⟩ | ⟨R, rest, m, d, e1, e2, e3⟩
  · rw [e1]
    exact RR_imp (bad _ v σ1 (fl_ne0 C (by omega)) e2) (fun _ σ' h' => Out_f (k := 1) rfl (by decide) h')
  · rw [e1]
    simp only [List.nil_append]
    exact good R rest v m d σ1 e2 e3
theorem S_expr (C : Cx N X σ0 Λ ln cur start) {c : Int32} {sh : List Int32} {ts : List AT} {w mk : Int32} {B : List Int32} {σ : MS} {k : Int32 → MS → Option (Int32 × MS)} (hc : ¬ (c = 44 ∨ c = 40 ∨ c = 41) ∧ isRM c = false) (h : GR X σ0 ts B σ)
    (good : ∀ R rest v m d σ1, evV (η0 X Λ σ0 start) R = (v, m, d) → CK X σ0 ln (mdF m d) (GR X σ0 rest B) σ1 → RR (k v σ1) (fun _ σ' => OutS X Λ σ0 ln start (shp sh rest w c R) B σ'))
    (bad : ∀ F v σ1, F ≠ 0 → FS X σ0 F σ1 → RR (k v σ1) (fun _ σ' => FS X σ0 F σ')) : RR (cl (M_expression N σ) k) (fun _ σ' => OutS X Λ σ0 ln start (shp (c :: sh) ts w mk []) B σ') := by
  refine RR_then (G_expr C h) (fun v σ1 h1 => ?_)
  simp only [shp]
  rw [if_neg hc.1, if_neg (by rw [hc.2]; decide)]
  rcases h1 with ⟨e1, e2⟩ | ⟨R, rest, m, d, e1, e2, -, -, -, e6⟩
  · rw [e1]
    exact RR_imp (bad _ v σ1 (fl_ne0 C (by omega)) e2) (fun _ σ' h' => Out_f (k := 1) rfl (by decide) h')
  · rw [e1]
    simp only [List.nil_append]
    exact good R rest v m d σ1 (evV_of e2) e6
theorem shp_br {ts : List AT} {w mk : Int32} {R : List XSt} : shp [40, 97, 41] ts w mk R = if (brR ts).1 = 0 then (0, w ||| rb 97 (brR ts).2.1, mk, R, (brR ts).2.2) else ((brR ts).1, (shp [40, 97, 41] ts w mk R).2) := by
  simp only [shp, brR]
  rw [if_pos (by decide)]
  cases h1 : tk1 40 ts with
  | none => rfl
  | some x =>
    simp only []
    rw [if_neg (by decide), if_pos (by decide)]
    by_cases h2 : (tkR x.2).1 = 0
    · obtain ⟨j, j1, j2⟩ := tkR_n h2
      have er : regT 97 x.2 = (0, rb 97 (nI j), (tkR x.2).2.2) := by
        unfold regT
        rw [if_neg (fun z => z h2), j2, if_neg (rb_pos j j1 97 (by decide))]
      rw [er, if_pos rfl, if_pos h2]
      simp only [j2]
      cases h3 : tk1 41 (tkR x.2).2.2 with
      | none => rfl
      | some y => rfl
    · have er : regT 97 x.2 = ((tkR x.2).1, 0, []) := by
        unfold regT
        rw [if_pos h2]
      rw [er, if_neg h2, if_neg h2]
      simp only []
      rw [if_neg h2]
theorem shp_keep : ∀ (sh : List Int32) (ts : List AT) (w q : Int32) (R : List XSt), (∀ c ∈ sh, (c = 44 ∨ c = 40 ∨ c = 41) ∨ isRM c = true) → (shp sh ts w q R).2.2.1 = q ∧ (shp sh ts w q R).2.2.2.1 = R
  | [], ts, w, q, R, _ => ⟨rfl, rfl⟩
  | c :: sh, ts, w, q, R, h => by
    have h2 : ∀ d ∈ sh, (d = 44 ∨ d = 40 ∨ d = 41) ∨ isRM d = true := fun d hd => h d (List.mem_cons_of_mem _ hd)
    simp only [shp]
    split
    · split
      · exact shp_keep sh _ _ _ _ h2
      · exact ⟨rfl, rfl⟩
    · rename_i c1
      rcases h c (List.mem_cons_self ..) with h1 | h1
      · exact absurd h1 c1
      · rw [if_pos h1]
        split
        · exact shp_keep sh _ _ _ _ h2
        · exact ⟨rfl, rfl⟩
end
