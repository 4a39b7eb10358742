/-! ===== more of the reference's small methods ===== -/
section
variable {N : Nat} {X : List Int32} {σ0 : MS} {Λ : List Lb} {ln cur start : Nat}
theorem FS_expr (C : Cx N X σ0 Λ ln cur start) {F : Int32} {σ : MS} (hF : F ≠ 0) (h : FS X σ0 F σ) : RR (M_expression N σ) (fun _ σ' => FS X σ0 F σ') := by
  have hN := C.1
  obtain ⟨n, rfl⟩ : ∃ n, N = n + 1 := ⟨N - 1, by omega⟩
  have h5 : FS X σ0 F (sF (sF (sF (sF (sF σ 27 0) 28 4100) 24 0) 25 0) 26 0) := ((((h.sFv _ (by decide) (by decide) (by decide)).sFv _ (by decide) (by decide) (by decide)).sFv _ (by decide) (by decide) (by decide)).sFv _ (by decide) (by decide) (by decide)).sFv _ (by decide) (by decide) (by decide)
  have e := expr_fault (N := n + 1) (n := n) (x1 := 0) (x2 := 1) (x3 := 1) (by omega) (show (sF (sF (sF (sF (sF σ 27 0) 28 4100) 24 0) 25 0) 26 0).1 14 ≠ 0 by rw [h5.2.2]; exact hF)
  exact ⟨0, _, e, h5⟩
def fitR (v lo hi st : Int32) : Bool := !(decide (v < lo)) && !(decide (hi < v)) && decide (jrem v st = 0)
theorem M_fits_good {v lo hi st : Int32} {σ : MS} (hz : nz st = true) (h : σ.1 17 ≠ 2 ∨ fitR v lo hi st = true) : M_fits v lo hi st σ = some (0, σ) := by
  unfold M_fits M_fits_31
  rcases h with h | h
  · rw [if_neg h]
  · simp only [fitR, Bool.and_eq_true, Bool.not_eq_true', decide_eq_false_iff_not, decide_eq_true_eq] at h
    by_cases c : σ.1 17 = 2
    · rw [if_pos c, if_neg h.1.1, if_neg h.1.2, gd_t hz, if_pos h.2]
    · rw [if_neg c]
theorem M_fits_bad {v lo hi st : Int32} {σ : MS} (hz : nz st = true) (h : σ.1 17 = 2) (h2 : fitR v lo hi st = false) : M_fits v lo hi st σ = cl (M_blame 10 σ) (fun _ σ2 => some (0, σ2)) := by
  unfold M_fits M_fits_25 M_fits_31
  rw [if_pos h]
  by_cases a : v < lo
  · rw [if_pos a]
  rw [if_neg a]
  by_cases b : hi < v
  · rw [if_pos b]
  rw [if_neg b, gd_t hz]
  by_cases c : jrem v st = 0
  · exfalso
    have : fitR v lo hi st = true := by simp [fitR, a, b, c]
    rw [h2] at this
    cases this
  · rw [if_neg c]
theorem FS_fits {F : Int32} {σ : MS} (hF : F ≠ 0) (h : FS X σ0 F σ) (v lo hi : Int32) {st : Int32} (hz : nz st = true) : RR (M_fits v lo hi st σ) (fun _ σ' => FS X σ0 F σ') := by
  by_cases c : σ.1 17 ≠ 2 ∨ fitR v lo hi st = true
  · rw [M_fits_good hz c]; exact RR_ret h
  · simp only [not_or, Decidable.not_not, Bool.not_eq_true] at c
    rw [M_fits_bad hz c.1 c.2]
    exact RR_then (FS_blame hF h) (fun _ σ2 h2 => RR_ret h2)
def ckF (m d f : Bool) : Nat := if m = true then 8 else if d = true then 9 else if f = true then 0 else 10
theorem ckF_le (m d f : Bool) : ckF m d f ≤ 15 := by cases m <;> cases d <;> cases f <;> decide
theorem mdF_le (m d : Bool) : mdF m d ≤ 15 := by cases m <;> cases d <;> decide
theorem ckF_md {m d : Bool} (f : Bool) (h : mdF m d ≠ 0) : ckF m d f = mdF m d := by
  revert h
  cases m <;> cases d <;> cases f <;> decide
theorem ckF_0 {m d : Bool} (f : Bool) (h : mdF m d = 0) : ckF m d f = if f = true then 0 else 10 := by
  revert h
  cases m <;> cases d <;> cases f <;> decide
theorem GR.f {ts : List AT} {B : List Int32} {σ : MS} (h : GR X σ0 ts B σ) : FZ σ0 σ := by
  obtain ⟨q, -, hG⟩ := h
  exact hG.1
theorem GR.at9 {ts : List AT} {B : List Int32} {σ : MS} (h : GR X σ0 ts B σ) : At9 X σ := by
  obtain ⟨q, -, hG⟩ := h
  exact ⟨q, hG.2.1, hG.2.2.1⟩
theorem CK.num {ts : List AT} {B : List Int32} {σ : MS} {f : Nat} (h : CK X σ0 ln f (GR X σ0 ts B) σ) {j : Nat} (hj : volR j = false) : σ.1 j = σ0.1 j := by
  rcases h.cases with ⟨-, -, c3⟩ | ⟨-, c2⟩
  · exact c3.1.1 j hj
  · exact c2.f.1 j (volR_Z hj)
/-- behind an expression, its value is held against bounds -/
theorem G_fits (C : Cx N X σ0 Λ ln cur start) {ts : List AT} {B : List Int32} {σ : MS} {m d : Bool} (h : CK X σ0 ln (mdF m d) (GR X σ0 ts B) σ) (v lo hi : Int32) {st : Int32} (hz : nz st = true) : RR (M_fits v lo hi st σ) (fun _ σ' => CK X σ0 ln (ckF m d (fitR v lo hi st)) (GR X σ0 ts B) σ') := by
  have h17 : σ.1 17 = σ0.1 17 := h.num (by decide)
  rcases h.cases with ⟨c1, c2, c3⟩ | ⟨c1, c2⟩
  · refine RR_imp (FS_fits (fl_ne0 C ⟨by omega, mdF_le m d⟩) c3 v lo hi hz) (fun _ σ' h' => ?_)
    rw [ckF_md _ c2]
    exact CK.y c1 c2 h'
  · by_cases c : σ0.1 17 = 2
    · have hmd : mdF m d = 0 := Decidable.not_not.mp (fun z => c1 ⟨c, z⟩)
      rw [ckF_0 _ hmd]
      cases hf : fitR v lo hi st with
      | true =>
        rw [M_fits_good hz (Or.inr hf)]
        exact RR_ret (CK.n (fun z => z.2 rfl) c2)
      | false =>
        rw [M_fits_bad hz (h17.trans c) hf]
        exact RR_then (G_blame C c2.f c2.at9 10 (k := 10) rfl) (fun _ σ2 h2 => RR_ret (CK.y c (by decide) h2.1))
    · rw [M_fits_good hz (Or.inl (by rw [h17]; exact c))]
      exact RR_ret (CK.n (fun z => c z.1) c2)
/-- what an expression leaves: a wrong token, or its steps and value -/
def EX1 (X : List Int32) (Λ : List Lb) (σ0 : MS) (ln start : Nat) (ts : List AT) (σ : MS) : Prop := cmpT ts = none ∧ FS X σ0 (fl ln 1) σ
def evV (η : Int32 → AT → Int32 × Bool) (R : List XSt) : Int32 × Bool × Bool := ((evR η R).1.headD 0, (evR η R).2.1, (evR η R).2.2)
theorem evV_of {η : Int32 → AT → Int32 × Bool} {R : List XSt} {v : Int32} {m d : Bool} (h : evR η R = ([v], m, d)) : evV η R = (v, m, d) := by
  unfold evV; rw [h]; rfl
theorem G_within (C : Cx N X σ0 Λ ln cur start) {ts : List AT} {B : List Int32} {σ : MS} (h : GR X σ0 ts B σ) (lo hi : Int32) {st : Int32} (hz : nz st = true) : RR (M_within N lo hi st σ) (fun v σ' => (cmpT ts = none ∧ FS X σ0 (fl ln 1) σ') ∨ (∃ R rest m d, cmpT ts = some (R, rest) ∧ evV (η0 X Λ σ0 start) R = (v, m, d) ∧ CK X σ0 ln (ckF m d (fitR v lo hi st)) (GR X σ0 rest B) σ')) := by
  unfold M_within
  refine RR_then (G_expr C h) (fun v σ1 h1 => ?_)
  rcases h1 with ⟨e1, e2⟩ | ⟨R, rest, m, d, e1, e2, -, -, -, e6⟩
  · exact RR_then (FS_fits (fl_ne0 C (by omega)) e2 v lo hi hz) (fun _ σ2 h2 => RR_ret (Or.inl ⟨e1, h2⟩))
  · exact RR_then (G_fits C e6 v lo hi hz) (fun _ σ2 h2 => RR_ret (Or.inr ⟨R, rest, m, d, e1, evV_of e2, h2⟩))
theorem FS_within (C : Cx N X σ0 Λ ln cur start) {F : Int32} {σ : MS} (hF : F ≠ 0) (h : FS X σ0 F σ) (lo hi : Int32) {st : Int32} (hz : nz st = true) : RR (M_within N lo hi st σ) (fun _ σ' => FS X σ0 F σ') := by
  unfold M_within
  exact RR_then (FS_expr C hF h) (fun v σ1 h1 => RR_then (FS_fits hF h1 v lo hi hz) (fun _ σ2 h2 => RR_ret h2))
theorem G_not (C : Cx N X σ0 Λ ln cur start) {ts : List AT} {B : List Int32} {σ : MS} (h : GR X σ0 ts B σ) (r x : Int32) : RR (M_not r x σ) (fun v σ' => (r ≠ x ∧ v = r ∧ GR X σ0 ts B σ') ∨ (r = x ∧ FS X σ0 (fl ln 3) σ')) := by
  unfold M_not M_not_10
  exact RR_if (fun c => RR_then (G_blame C h.f h.at9 3 (k := 3) rfl) (fun _ σ2 h2 => RR_ret (Or.inr ⟨c, h2.1⟩))) (fun c => RR_ret (Or.inl ⟨c, rfl, h⟩))
theorem FS_not {F : Int32} {σ : MS} (hF : F ≠ 0) (h : FS X σ0 F σ) (r x : Int32) : RR (M_not r x σ) (fun _ σ' => FS X σ0 F σ') := by
  unfold M_not M_not_10
  exact RR_if (fun c => RR_then (FS_blame hF h) (fun _ σ2 h2 => RR_ret h2)) (fun c => RR_ret h)
theorem G_near8 (C : Cx N X σ0 Λ ln cur start) {ts : List AT} {B : List Int32} {σ : MS} (h : GR X σ0 ts B σ) : RR (M_near8 N σ) (fun v σ' => ((tkR ts).1 = 0 ∧ (8 ≤ (tkR ts).2.1 ∧ (tkR ts).2.1 ≤ 15) ∧ v = ((tkR ts).2.1 - 8) &&& 7 ∧ GR X σ0 (tkR ts).2.2 B σ') ∨ ((tkR ts).1 = 0 ∧ ¬ (8 ≤ (tkR ts).2.1 ∧ (tkR ts).2.1 ≤ 15) ∧ FS X σ0 (fl ln 3) σ') ∨ ((tkR ts).1 ≠ 0 ∧ FS X σ0 (fl ln (tkR ts).1) σ')) := by
  unfold M_near8 M_near8_17 M_near8_22
  refine RR_then (G_taken C h) (fun v σ1 h1 => ?_)
  rcases h1 with ⟨e1, e2, e3⟩ | ⟨e1, e2, e3⟩
  · subst e2
    refine RR_if (fun c => ?_) (fun c => RR_if (fun d => ?_) (fun d => ?_))
    · exact RR_then (G_blame C e3.f e3.at9 3 (k := 3) rfl) (fun _ σ2 h2 => RR_ret (Or.inr (Or.inl ⟨e1, fun z => absurd c (Int32.not_lt.mpr z.1), h2.1⟩)))
    · exact RR_ret (Or.inl ⟨e1, ⟨Int32.not_lt.mp c, d⟩, rfl, e3⟩)
    · exact RR_then (G_blame C e3.f e3.at9 3 (k := 3) rfl) (fun _ σ2 h2 => RR_ret (Or.inr (Or.inl ⟨e1, fun z => d z.2, h2.1⟩)))
  · have hF : fl ln (tkR ts).1 ≠ 0 := by
      refine fl_ne0 C ⟨by omega, ?_⟩
      cases ts with
      | nil => decide
      | cons a r =>
        show (if _ then _ else _ : Nat × Int32 × List AT).1 ≤ 15
        split
        · decide
        · split
          · exact Nat.zero_le _
          · decide
    refine RR_if (fun c => ?_) (fun c => RR_if (fun d => ?_) (fun d => ?_))
    · exact RR_then (FS_blame hF e3) (fun _ σ2 h2 => RR_ret (Or.inr (Or.inr ⟨e1, h2⟩)))
    · exact RR_ret (Or.inr (Or.inr ⟨e1, e3⟩))
    · exact RR_then (FS_blame hF e3) (fun _ σ2 h2 => RR_ret (Or.inr (Or.inr ⟨e1, h2⟩)))
theorem tkR_le (ts : List AT) : (tkR ts).1 ≤ 15 := by
  cases ts with
  | nil => decide
  | cons a r =>
    show (if _ then _ else _ : Nat × Int32 × List AT).1 ≤ 15
    split
    · decide
    · split
      · exact Nat.zero_le _
      · decide
theorem FS_near8 (C : Cx N X σ0 Λ ln cur start) {F : Int32} {σ : MS} (hF : F ≠ 0) (h : FS X σ0 F σ) : RR (M_near8 N σ) (fun _ σ' => FS X σ0 F σ') := by
  unfold M_near8 M_near8_17 M_near8_22
  refine RR_then (FS_taken C hF h) (fun v σ1 h1 => ?_)
  exact RR_if (fun c => RR_then (FS_blame hF h1) (fun _ σ2 h2 => RR_ret h2)) (fun c => RR_if (fun d => RR_ret h1) (fun d => RR_then (FS_blame hF h1) (fun _ σ2 h2 => RR_ret h2)))
/-- a register behind a comma -/
def bhR (ts : List AT) : Nat × Int32 × List AT := match tk1 44 ts with
  | some x => tkR x.2
  | none => (1, 0, [])
theorem bhR_le (ts : List AT) : (bhR ts).1 ≤ 15 := by
  unfold bhR
  split
  · exact tkR_le _
  · decide
theorem G_behind (C : Cx N X σ0 Λ ln cur start) {ts : List AT} {B : List Int32} {σ : MS} (h : GR X σ0 ts B σ) : RR (M_behind N σ) (fun v σ' => ((bhR ts).1 = 0 ∧ v = (bhR ts).2.1 ∧ GR X σ0 (bhR ts).2.2 B σ') ∨ ((bhR ts).1 ≠ 0 ∧ FS X σ0 (fl ln (bhR ts).1) σ')) := by
  unfold M_behind M_behind_17 bhR
  refine RR_then (G_needs C h (c := 44) (by simp) rfl) (fun v σ1 h1 => ?_)
  rcases h1 with ⟨a, r, e1, e2, e3, -⟩ | ⟨e1, e2, e3⟩
  · rw [e1]
    refine RR_n (by rw [e2]; decide) (RR_then (G_taken C e3) (fun v σ2 h2 => RR_ret ?_))
    rcases h2 with ⟨f1, f2, f3⟩ | ⟨f1, -, f3⟩
    · exact Or.inl ⟨f1, f2, f3⟩
    · exact Or.inr ⟨f1, f3⟩
  · rw [e1]
    exact RR_y e2 (RR_ret (Or.inr ⟨by decide, e3⟩))
theorem FS_behind (C : Cx N X σ0 Λ ln cur start) {F : Int32} {σ : MS} (hF : F ≠ 0) (h : FS X σ0 F σ) : RR (M_behind N σ) (fun _ σ' => FS X σ0 F σ') := by
  unfold M_behind M_behind_17
  exact RR_then (FS_needs C hF h) (fun v σ1 h1 => RR_if (fun _ => RR_ret h1) (fun _ => RR_then (FS_taken C hF h1) (fun _ σ2 h2 => RR_ret h2)))
/-- a register in brackets -/
def brR (ts : List AT) : Nat × Int32 × List AT := match tk1 40 ts with
  | some x => if (tkR x.2).1 = 0 then (match tk1 41 (tkR x.2).2.2 with
    | some y => (0, (tkR x.2).2.1, y.2)
    | none => (1, 0, [])) else tkR x.2
  | none => (1, 0, [])
theorem brR_le (ts : List AT) : (brR ts).1 ≤ 15 := by
  unfold brR
  split
  · split
    · split
      · exact Nat.zero_le _
      · decide
    · exact tkR_le _
  · decide
theorem G_bracketed (C : Cx N X σ0 Λ ln cur start) {ts : List AT} {B : List Int32} {σ : MS} (h : GR X σ0 ts B σ) : RR (M_bracketed N σ) (fun v σ' => ((brR ts).1 = 0 ∧ v = (brR ts).2.1 ∧ GR X σ0 (brR ts).2.2 B σ') ∨ ((brR ts).1 ≠ 0 ∧ FS X σ0 (fl ln (brR ts).1) σ')) := by
  have c10 := C.2.2.2.2.2.2.2.2.2
  unfold M_bracketed M_bracketed_17 M_bracketed_32
  refine RR_then (G_needs C h (c := 40) (by simp) rfl) (fun v σ1 h1 => ?_)
  rcases h1 with ⟨a, r, e1, e2, e3, -⟩ | ⟨e1, e2, e3⟩
  · refine RR_n (by rw [e2]; decide) (RR_then (G_taken C e3) (fun v σ2 h2 => ?_))
    rcases h2 with ⟨f1, f2, f3⟩ | ⟨f1, -, f3⟩
    · refine RR_y (by rw [f3.f.1 14 (by decide)]; exact c10) (RR_then (G_needs C f3 (c := 41) (by simp) rfl) (fun w σ3 h3 => RR_ret ?_))
      rcases h3 with ⟨b, s, g1, g2, g3, -⟩ | ⟨g1, g2, g3⟩
      · have eb : brR ts = (0, (tkR r).2.1, s) := by
          unfold brR
          rw [e1]
          show (if (tkR r).1 = 0 then _ else _) = _
          rw [if_pos f1, g1]
        rw [eb]
        exact Or.inl ⟨rfl, f2, g3⟩
      · have eb : brR ts = (1, 0, []) := by
          unfold brR
          rw [e1]
          show (if (tkR r).1 = 0 then _ else _) = _
          rw [if_pos f1, g1]
        rw [eb]
        exact Or.inr ⟨by decide, g3⟩
    · have eb : brR ts = tkR r := by
        unfold brR
        rw [e1]
        show (if (tkR r).1 = 0 then _ else _) = _
        rw [if_neg f1]
      refine RR_n (by rw [f3.2.2]; exact fl_ne0 C ⟨by omega, tkR_le _⟩) (RR_ret ?_)
      rw [eb]
      exact Or.inr ⟨f1, f3⟩
  · have eb : brR ts = (1, 0, []) := by
      unfold brR
      rw [e1]
    rw [eb]
    refine RR_y e2 (RR_n (by rw [e3.2.2]; exact fl_ne0 C (by omega)) (RR_ret (Or.inr ⟨by decide, e3⟩)))
theorem FS_bracketed (C : Cx N X σ0 Λ ln cur start) {F : Int32} {σ : MS} (hF : F ≠ 0) (h : FS X σ0 F σ) : RR (M_bracketed N σ) (fun _ σ' => FS X σ0 F σ') := by
  unfold M_bracketed M_bracketed_17 M_bracketed_32
  have e : ∀ (x : Int32) (σ2 : MS), FS X σ0 F σ2 → RR (if σ2.1 14 = 0 then cl (M_needs N 41 σ2) (fun _ σ3 => some (x, σ3)) else some (x, σ2)) (fun _ σ' => FS X σ0 F σ') := fun x σ2 h2 => RR_if (fun _ => RR_then (FS_needs C hF h2) (fun _ σ3 h3 => RR_ret h3)) (fun _ => RR_ret h2)
  exact RR_then (FS_needs C hF h) (fun v σ1 h1 => RR_if (fun _ => e _ σ1 h1) (fun _ => RR_then (FS_taken C hF h1) (fun v σ2 h2 => e _ σ2 h2)))
/-- is this the line's end? -/
def atE : List AT → Bool
  | a :: _ => decide (a.k = 0)
  | [] => true
theorem rk_0 {k : Int32} (h : okK k) : rk k = 0 ↔ k = 0 := rk_inj (c := 0) h (by simp)
theorem G_isEnd (C : Cx N X σ0 Λ ln cur start) {ts : List AT} {B : List Int32} {σ : MS} (h : GR X σ0 ts B σ) : RR (M_isEnd N σ) (fun v σ' => v = b2 (atE ts) ∧ GR X σ0 ts B σ') := by
  obtain ⟨q, a, r, σ1, e, hl, hg, s1, s2, s3, s4, s5, s6, s7⟩ := G_scan C h
  subst e
  have tok : (σ1.1 10 = 0) ↔ a.k = 0 := by
    by_cases k0 : a.k = 0
    · rw [(s2.2.2.1 k0).1]; exact ⟨fun _ => k0, fun _ => rfl⟩
    by_cases k1 : a.k = 1
    · rw [(s2.2.2.2.1 k1).1, k1]; decide
    rw [(s2.2.2.2.2 k0 k1).1]
    exact rk_0 (s6 k0 k1).2.1
  have hG : GR X σ0 (a :: r) B (sF σ1 9 (σ.1 9)) := by
    refine ⟨q, hl, ⟨fun j hj => ?_, s3.2⟩, hg.2.1, ?_, ?_, ?_⟩
    · obtain ⟨j1, -⟩ := vol_z hj
      rw [sF_ne _ _ j1]; exact s3.1 j hj
    · rw [sF_at]; exact hg.2.2.1
    · rw [sF_ne _ _ (by decide)]; exact s4
    · rw [sF_ne _ _ (by decide)]; exact s5
  unfold M_isEnd M_isEnd_26
  rw [s1]
  simp only [cl, Option.bind_some]
  refine RR_bnd (RR_if (fun c => RR_gd (by decide) (RR_ret ⟨?_, hG⟩)) (fun c => RR_gd (by decide) (RR_ret ⟨?_, hG⟩)))
  · rw [show atE (a :: r) = decide (a.k = 0) from rfl, decide_eq_true (tok.mp c)]; rfl
  · rw [show atE (a :: r) = decide (a.k = 0) from rfl, decide_eq_false (fun z => c (tok.mpr z))]; rfl
theorem FS_isEnd (C : Cx N X σ0 Λ ln cur start) {F : Int32} {σ : MS} (hF : F ≠ 0) (h : FS X σ0 F σ) : RR (M_isEnd N σ) (fun _ σ' => FS X σ0 F σ') := by
  unfold M_isEnd M_isEnd_26
  refine RR_then (FS_scan C h) (fun _ σ1 h1 => RR_bnd ?_)
  have h2 : FS X σ0 F (sF σ1 9 (σ.1 9)) := by
    refine ⟨⟨fun j hj => ?_, h1.1.2⟩, ?_, ?_⟩
    · obtain ⟨j1, -⟩ := vol_sc hj
      rw [sF_ne _ _ j1]; exact h1.1.1 j hj
    · obtain ⟨q, a, b⟩ := h.2.1
      exact ⟨q, a, by rw [sF_at]; exact b⟩
    · rw [sF_ne _ _ (by decide)]; exact h1.2.2
  exact RR_if (fun _ => RR_gd (by decide) (RR_ret h2)) (fun _ => RR_gd (by decide) (RR_ret h2))
end
