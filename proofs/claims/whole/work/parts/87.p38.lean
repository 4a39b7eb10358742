/-! ===== the directives ===== -/
/-- numbers behind one another: fault, their steps, what is left -/
def nmT : Nat → List AT → Nat × List (List XSt) × List AT
  | 0, _ => (1, [], [])
  | n + 1, ts => match cmpT ts with
    | none => (1, [], [])
    | some x => if atE x.2 = true then (0, [x.1], x.2) else match tk1 44 x.2 with
      | none => (1, [], [])
      | some y => ((nmT n y.2).1, x.1 :: (nmT n y.2).2.1, (nmT n y.2).2.2)
def nmF (η : Int32 → AT → Int32 × Bool) : List (List XSt) → Nat
  | [] => 0
  | R :: r => if mdF (evV η R).2.1 (evV η R).2.2 ≠ 0 then mdF (evV η R).2.1 (evV η R).2.2 else nmF η r
def nmB (η : Int32 → AT → Int32 × Bool) (size : Nat) (Rs : List (List XSt)) : List Int32 := Rs.flatMap (fun R => wB (evV η R).1 size)
/-- strings behind one another -/
def stT : Nat → List AT → Nat × List (List Int32) × List AT
  | 0, _ => (1, [], [])
  | n + 1, ts => match tk1 6 ts with
    | none => (1, [], [])
    | some x => if atE x.2 = true then (0, [x.1.s], x.2) else match tk1 44 x.2 with
      | none => (1, [], [])
      | some y => ((stT n y.2).1, x.1.s :: (stT n y.2).2.1, (stT n y.2).2.2)
def stB (z : Int32) (Ss : List (List Int32)) : List Int32 := Ss.flatMap (fun s => s.map (fun c => c &&& 255) ++ (if z = 0 then [] else [0]))
/-- a name, a comma, a fixed number -/
def eqT (η : Int32 → AT → Int32 × Bool) (lo : AT → Bool) (tk : List Int32 → Bool) (ts : List AT) : Nat × AT × Int32 × List AT := match tk1 2 ts with
  | none => (1, nilA, 0, [])
  | some x => if tk x.1.nm = true then (4, nilA, 0, []) else match tk1 44 x.2 with
    | none => (1, nilA, 0, [])
    | some y => match cmpT y.2 with
      | none => (1, nilA, 0, [])
      | some z => if fxF η lo (-2147483648) 2147483647 z.1 ≠ 0 then (fxF η lo (-2147483648) 2147483647 z.1, nilA, 0, []) else (0, x.1, (evV η z.1).1, z.2)
/-- a fixed number alone -/
def f1T (η : Int32 → AT → Int32 × Bool) (lo : AT → Bool) (low high : Int32) (ts : List AT) : Nat × Int32 × List AT := match cmpT ts with
  | none => (1, 0, [])
  | some z => if fxF η lo low high z.1 ≠ 0 then (fxF η lo low high z.1, 0, []) else (0, (evV η z.1).1, z.2)
def tkA (X : List Int32) (Λ : List Lb) (nm : List Int32) : Bool := decide (0 ≤ regR nm) || (fnd X nm Λ 0).isSome
def dfn (σ : MS) (p kd v : Int32) : MS := sF (sA (sA σ 5 (σ.1 5).toNatClampNeg (p ||| (kd <<< ((13 : Int32) &&& 31)))) 6 (σ.1 5).toNatClampNeg v) 5 (σ.1 5 + 1)
section
variable {N : Nat} {X : List Int32} {σ0 : MS} {Λ : List Lb} {ln cur start : Nat}
theorem FS_87 {n : Nat} {F : Int32} {σ : MS} (hF : F ≠ 0) (h : FS X σ0 F σ) (x1 x2 x3 : Int32) : RR (M_directive_87 N (n + 1) x1 x2 x3 σ) (fun _ σ' => FS X σ0 F σ') := by
  rw [M_directive_87]
  show RR (if x3 = 0 then _ else _) _
  unfold M_directive_185
  exact RR_if (fun _ => RR_ret h) (fun _ => RR_n (by rw [h.2.2]; exact hF) (RR_ret h))
theorem FS_153 {n : Nat} {F : Int32} {σ : MS} (hF : F ≠ 0) (h : FS X σ0 F σ) (x1 x2 : Int32) : RR (M_directive_153 N (M_directive_87 N (n + 1)) x1 x2 σ) (fun _ σ' => FS X σ0 F σ') := by
  unfold M_directive_153 M_directive_180 M_directive_181
  exact RR_n (by rw [h.2.2]; exact hF) (FS_87 hF h _ _ _)
theorem FS_129 {n : Nat} {F : Int32} (hF : F ≠ 0) {size : Nat} (hs : size ≤ 4) (x1 v : Int32) : ∀ (m i : Nat) (σ : MS), size - i < m → i ≤ size → FS X σ0 F σ → RR (M_directive_129 N (M_directive_87 N (n + 1)) m x1 (nI size) v (nI i) σ) (fun _ σ' => FS X σ0 F σ') := by
  intro m
  induction m with
  | zero => intro i σ h1; omega
  | succ m ih =>
    intro i σ h1 h2 h
    rw [M_directive_129]
    show RR (if nI size ≤ nI i then _ else _) _
    refine RR_if (fun c => FS_153 hF h _ _) (fun c => ?_)
    rw [nI_leI (by omega) (by omega)] at c
    refine RR_then (FS_put h _) (fun _ σ2 h2 => ?_)
    rw [nI_1]
    exact ih (i + 1) σ2 (by omega) (by omega) h2
theorem D_153 (C : Cx N X σ0 Λ ln cur start) {n : Nat} {x1 x2 : Int32} {r : List AT} {B : List Int32} {σ : MS} {Q : Int32 → MS → Prop} (h : GR X σ0 r B σ) (hE : atE r = true → ∀ σ1, GR X σ0 r B σ1 → Q 0 σ1) (hC : atE r = false → ∀ a r2 σ1, tk1 44 r = some (a, r2) → GR X σ0 r2 B σ1 → RR (M_directive_87 N (n + 1) x1 x2 1 σ1) Q) (hB : atE r = false → tk1 44 r = none → ∀ σ1, FS X σ0 (fl ln 1) σ1 → Q 0 σ1) : RR (M_directive_153 N (M_directive_87 N (n + 1)) x1 x2 σ) Q := by
  have stop : ∀ σ1, Q 0 σ1 → RR (M_directive_87 N (n + 1) x1 x2 0 σ1) Q := by
    intro σ1 hq
    rw [M_directive_87]
    show RR (if (0 : Int32) = 0 then _ else _) _
    exact RR_y rfl (RR_ret hq)
  unfold M_directive_153 M_directive_180 M_directive_181
  refine RR_y (by rw [h.f.1 14 (by decide)]; exact C.2.2.2.2.2.2.2.2.2) (RR_then (G_isEnd C h) (fun v σ1 h1 => ?_))
  obtain ⟨e1, e2⟩ := h1
  cases hA : atE r with
  | true =>
    rw [hA] at e1
    exact RR_n (by rw [e1]; decide) (stop σ1 (hE hA σ1 e2))
  | false =>
    rw [hA] at e1
    refine RR_y e1 (RR_then (G_needs C e2 (c := 44) (by simp) rfl) (fun v2 σ2 h2 => ?_))
    rcases h2 with ⟨a, r2, f1, f2, f3, -⟩ | ⟨f1, f2, f3⟩
    · exact RR_n (by rw [f2]; decide) (hC hA a r2 σ2 f1 f3)
    · exact RR_y f2 (stop σ2 (hB hA f1 σ2 f3))
theorem wB_succ (v : Int32) (i : Nat) : wB v (i + 1) = wB v i ++ [byt v i] := by
  unfold wB
  rw [List.range_succ, List.map_append]
  rfl
theorem D_129 {n : Nat} {size : Nat} (hs : size ≤ 4) {x1 v : Int32} {r : List AT} {B : List Int32} {Q : Int32 → MS → Prop} (go : ∀ σ1, GR X σ0 r (B ++ wB v size) σ1 → RR (M_directive_153 N (M_directive_87 N (n + 1)) x1 (nI size) σ1) Q) : ∀ (m i : Nat) (σ : MS), size - i < m → i ≤ size → GR X σ0 r (B ++ wB v i) σ → RR (M_directive_129 N (M_directive_87 N (n + 1)) m x1 (nI size) v (nI i) σ) Q := by
  intro m
  induction m with
  | zero => intro i σ h1; omega
  | succ m ih =>
    intro i σ h1 h2 h
    rw [M_directive_129]
    show RR (if nI size ≤ nI i then _ else _) _
    refine RR_if (fun c => ?_) (fun c => ?_)
    · rw [nI_leI (by omega) (by omega)] at c
      have : i = size := by omega
      subst this
      exact go σ h
    · rw [nI_leI (by omega) (by omega)] at c
      refine RR_then (G_put h _) (fun _ σ2 h2 => ?_)
      rw [nI_1]
      refine ih (i + 1) σ2 (by omega) (by omega) ?_
      rw [wB_succ, ← List.append_assoc]
      exact h2
def OutN (X : List Int32) (Λ : List Lb) (σ0 : MS) (ln start size : Nat) (B : List Int32) (t : Nat × List (List XSt) × List AT) (σ : MS) : Prop :=
  if t.1 ≠ 0 then (σ0.1 17 = 2 ∨ FS X σ0 (fl ln t.1) σ) else CK X σ0 ln (nmF (η0 X Λ σ0 start) t.2.1) (GR X σ0 t.2.2 (B ++ nmB (η0 X Λ σ0 start) size t.2.1)) σ
theorem OutN_f {size : Nat} {B : List Int32} (t : Nat × List (List XSt) × List AT) (σ : MS) (k : Nat) (h : t.1 = k) (hk : k ≠ 0) (hF : FS X σ0 (fl ln k) σ) : OutN X Λ σ0 ln start size B t σ := by
  unfold OutN
  rw [h, if_pos hk]
  exact Or.inr hF
theorem D_num (C : Cx N X σ0 Λ ln cur start) {size : Nat} (hs : size = 1 ∨ size = 2 ∨ size = 4) (x1 : Int32) : ∀ (n m : Nat) (ts : List AT) (B : List Int32) (σ : MS), ts.length ≤ n → n + 1 < m → GR X σ0 ts B σ → RR (M_directive_87 N m x1 (nI size) 1 σ) (fun _ σ' => OutN X Λ σ0 ln start size B (nmT n ts) σ') := by
  have hN := C.1
  have hsz : size ≤ 4 := by omega
  have hz : nI size ≠ 0 := by rcases hs with h | h | h <;> subst h <;> decide
  intro n
  induction n with
  | zero =>
    intro m ts B σ h1 h2 h
    obtain ⟨q, hl, -⟩ := h
    obtain ⟨a, r, e⟩ := lexS_ne X q
    rw [← hl, e] at h1
    simp at h1
  | succ n ih =>
    intro m ts B σ h1 h2 h
    obtain ⟨m', rfl⟩ : ∃ m', m = m' + 1 + 1 := ⟨m - 2, by omega⟩
    rw [M_directive_87]
    show RR (if (1 : Int32) = 0 then _ else _) _
    refine RR_n (by decide) (RR_y (by rw [h.f.1 14 (by decide)]; exact C.2.2.2.2.2.2.2.2.2) (RR_n hz (RR_then (G_expr C h) (fun v σ1 h3 => ?_))))
    rcases h3 with ⟨e1, e2⟩ | ⟨R, rest, mm, d, e1, e2, -, -, -, e6⟩
    · have et : nmT (n + 1) ts = (1, [], []) := by rw [nmT, e1]
      rw [et]
      exact RR_imp (FS_129 (fl_ne0 C (by omega)) hsz x1 v N 0 σ1 (by omega) (by omega) e2) (fun _ σ' h' => OutN_f _ _ 1 rfl (by decide) h')
    · have hev := evV_of e2
      have hlen := cmpT_len e1
      rcases e6.cases with ⟨c1, c2, c3⟩ | ⟨c1, c2⟩
      · refine RR_imp (FS_129 (fl_ne0 C ⟨by omega, mdF_le mm d⟩) hsz x1 v N 0 σ1 (by omega) (by omega) c3) (fun _ σ' h' => ?_)
        unfold OutN
        by_cases hp : (nmT (n + 1) ts).1 = 0
        · rw [if_neg (fun z => z hp)]
          have hf : nmF (η0 X Λ σ0 start) (nmT (n + 1) ts).2.1 = mdF mm d := by
            rw [nmT, e1] at hp ⊢
            simp only [] at hp ⊢
            by_cases hA : atE rest = true
            · rw [if_pos hA]
              simp only [nmF, hev]
              rw [if_pos c2]
            · rw [if_neg hA] at hp ⊢
              cases h4 : tk1 44 rest with
              | none => rw [h4] at hp; exact absurd (show (1 : Nat) = 0 from hp) (by decide)
              | some y =>
                simp only [nmF, hev]
                rw [if_pos c2]
          rw [hf]
          exact CK.y c1 c2 h'
        · rw [if_pos hp]; exact Or.inl c1
      · have nf : ∀ Rs, σ0.1 17 = 2 → nmF (η0 X Λ σ0 start) (R :: Rs) = nmF (η0 X Λ σ0 start) Rs := by
          intro Rs z
          simp only [nmF, hev]
          rw [if_neg (fun y => c1 ⟨z, y⟩)]
        refine D_129 hsz (r := rest) (B := B) (fun σ2 h4 => D_153 C h4 (fun hA σ3 h5 => ?_) (fun hA a r2 σ3 h5 h6 => ?_) (fun hA h5 σ3 h6 => ?_)) N 0 σ1 (by omega) (by omega) (by rw [show wB v 0 = [] from rfl, List.append_nil]; exact c2)
        · have et : nmT (n + 1) ts = (0, [R], rest) := by
            rw [nmT, e1]
            simp only []
            rw [if_pos hA]
          rw [et]
          unfold OutN
          rw [if_neg (fun z => z rfl)]
          refine CK.n (fun z => z.2 (nf [] z.1)) ?_
          show GR X σ0 rest (B ++ nmB (η0 X Λ σ0 start) size [R]) σ3
          unfold nmB
          simp only [List.flatMap_cons, List.flatMap_nil, List.append_nil, hev]
          exact h5
        · have et : nmT (n + 1) ts = ((nmT n r2).1, R :: (nmT n r2).2.1, (nmT n r2).2.2) := by
            rw [nmT, e1]
            simp only []
            rw [if_neg (by rw [hA]; decide), h5]
          have hr2 : r2.length ≤ n := by
            have := (tk1_some h5).1
            rw [this] at hlen
            simp only [List.length_cons] at hlen
            omega
          rw [et]
          refine RR_imp (ih (m' + 1) r2 (B ++ wB v size) σ3 hr2 (by omega) h6) (fun _ σ' h' => ?_)
          unfold OutN at h' ⊢
          by_cases hp : (nmT n r2).1 ≠ 0
          · rw [if_pos hp] at h' ⊢; exact h'
          · rw [if_neg hp] at h' ⊢
            rcases h'.cases with ⟨d1, d2, d3⟩ | ⟨d1, d2⟩
            · refine CK.y d1 ?_ ?_
              · show nmF (η0 X Λ σ0 start) (R :: (nmT n r2).2.1) ≠ 0
                rw [nf _ d1]; exact d2
              · show FS X σ0 (fl ln (nmF (η0 X Λ σ0 start) (R :: (nmT n r2).2.1))) σ'
                rw [nf _ d1]; exact d3
            · refine CK.n (fun z => d1 ⟨z.1, ?_⟩) ?_
              · have := z.2
                rw [show nmF (η0 X Λ σ0 start) ((nmT n r2).1, R :: (nmT n r2).2.1, (nmT n r2).2.2).2.1 = nmF (η0 X Λ σ0 start) (nmT n r2).2.1 from nf _ z.1] at this
                exact this
              · show GR X σ0 (nmT n r2).2.2 (B ++ nmB (η0 X Λ σ0 start) size (R :: (nmT n r2).2.1)) σ'
                unfold nmB at d2 ⊢
                simp only [List.flatMap_cons, hev]
                rw [← List.append_assoc]
                exact d2
        · have et : nmT (n + 1) ts = (1, [], []) := by
            rw [nmT, e1]
            simp only []
            rw [if_neg (by rw [hA]; decide), h5]
          rw [et]
          exact OutN_f _ _ 1 rfl (by decide) h6
def OutQ (X : List Int32) (σ0 : MS) (ln : Nat) (z : Int32) (B : List Int32) (t : Nat × List (List Int32) × List AT) (σ : MS) : Prop :=
  if t.1 ≠ 0 then FS X σ0 (fl ln t.1) σ else GR X σ0 t.2.2 (B ++ stB z t.2.1) σ
theorem D_str (C : Cx N X σ0 Λ ln cur start) {x1 z : Int32} (hx : z = if x1 = 47 then 1 else 0) : ∀ (n m : Nat) (ts : List AT) (B : List Int32) (σ : MS), ts.length ≤ n → n + 1 < m → GR X σ0 ts B σ → RR (M_directive_87 N m x1 0 1 σ) (fun _ σ' => OutQ X σ0 ln z B (stT n ts) σ') := by
  intro n
  induction n with
  | zero =>
    intro m ts B σ h1 h2 h
    obtain ⟨q, hl, -⟩ := h
    obtain ⟨a, r, e⟩ := lexS_ne X q
    rw [← hl, e] at h1
    simp at h1
  | succ n ih =>
    intro m ts B σ h1 h2 h
    obtain ⟨m', rfl⟩ : ∃ m', m = m' + 1 + 1 := ⟨m - 2, by omega⟩
    rw [M_directive_87]
    show RR (if (1 : Int32) = 0 then _ else _) _
    have go : RR (M_directive_114 N (M_directive_87 N (m' + 1)) x1 0 z σ) (fun _ σ' => OutQ X σ0 ln z B (stT (n + 1) ts) σ') := by
      unfold M_directive_114
      refine RR_then (G_quoted C h) (fun v σ1 h3 => ?_)
      rcases h3 with ⟨a, r, e1, e2⟩ | ⟨e1, e2⟩
      · obtain ⟨ets, -⟩ := tk1_some e1
        refine D_153 C e2 (fun hA σ3 h5 => ?_) (fun hA b r2 σ3 h5 h6 => ?_) (fun hA h5 σ3 h6 => ?_)
        · have et : stT (n + 1) ts = (0, [a.s], r) := by
            rw [stT, e1]
            simp only []
            rw [if_pos hA]
          rw [et]
          unfold OutQ stB
          rw [if_neg (fun z => z rfl)]
          simp only [List.flatMap_cons, List.flatMap_nil, List.append_nil]
          rw [← List.append_assoc]
          exact h5
        · have et : stT (n + 1) ts = ((stT n r2).1, a.s :: (stT n r2).2.1, (stT n r2).2.2) := by
            rw [stT, e1]
            simp only []
            rw [if_neg (by rw [hA]; decide), h5]
          have hr2 : r2.length ≤ n := by
            have := (tk1_some h5).1
            rw [ets, this] at h1
            simp only [List.length_cons] at h1
            omega
          rw [et]
          refine RR_imp (ih (m' + 1) r2 _ σ3 hr2 (by omega) h6) (fun _ σ' h' => ?_)
          unfold OutQ at h' ⊢
          by_cases hp : (stT n r2).1 ≠ 0
          · rw [if_pos hp] at h' ⊢; exact h'
          · rw [if_neg hp] at h' ⊢
            unfold stB at h' ⊢
            simp only [List.flatMap_cons]
            rw [← List.append_assoc, ← List.append_assoc]
            exact h'
        · have et : stT (n + 1) ts = (1, [], []) := by
            rw [stT, e1]
            simp only []
            rw [if_neg (by rw [hA]; decide), h5]
          rw [et]
          unfold OutQ
          rw [if_pos (show (1 : Nat) ≠ 0 by decide)]
          exact h6
      · have et : stT (n + 1) ts = (1, [], []) := by rw [stT, e1]
        rw [et]
        refine RR_imp (FS_153 (fl_ne0 C (by omega)) e2 _ _) (fun _ σ' h' => ?_)
        unfold OutQ
        rw [if_pos (show (1 : Nat) ≠ 0 by decide)]
        exact h'
    refine RR_n (by decide) (RR_y (by rw [h.f.1 14 (by decide)]; exact C.2.2.2.2.2.2.2.2.2) (RR_y rfl (RR_if (fun q => ?_) (fun q => ?_))))
    · rw [hx, if_pos q] at go ⊢; exact go
    · rw [hx, if_neg q] at go ⊢; exact go
end
