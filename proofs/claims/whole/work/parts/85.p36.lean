/-! ===== li; the directives ===== -/
/-- what li makes of a register's bits and a value: words and their lengths -/
def liI (bits v : Int32) : List (Int32 × Nat) :=
  if fitB 78 v = true ∧ bits ≠ 0 then [((16385 ||| bits) ||| scat 78 v, 2)]
  else if fitB 105 v = true then [((19 ||| bits) ||| (v <<< ((20 : Int32) &&& 31)), 4)]
  else ((55 ||| bits) ||| (jush (v + 2048) 12 <<< ((12 : Int32) &&& 31)), 4) :: (if v <<< ((20 : Int32) &&& 31) = 0 then [] else [(((19 ||| bits) ||| (bits <<< ((8 : Int32) &&& 31))) ||| (v <<< ((20 : Int32) &&& 31)), 4)])
def liB (l : List (Int32 × Nat)) : List Int32 := l.flatMap (fun x => wB x.1 x.2)
theorem li_8 : ∀ j, j < 32 → (rb 100 (nI j) <<< ((8 : Int32) &&& 31)) = nI j <<< ((15 : Int32) &&& 31) ∧ (rb 100 (nI j) = 0 ↔ nI j = 0) := by decide +kernel
theorem low_0 (v : Int32) : ((v <<< ((20 : Int32) &&& 31)) >>> ((20 : Int32) &&& 31) = 0) ↔ v <<< ((20 : Int32) &&& 31) = 0 := by
  constructor
  · intro h
    rw [← shl_20, h]; decide
  · intro h
    rw [h]; decide
theorem fit78 (v : Int32) : fitB 78 v = true ↔ (-32 ≤ v.toInt ∧ v.toInt ≤ 31) := by
  rw [fitB_78]
  unfold inW
  simp only [Bool.and_eq_true, Bool.not_eq_true', decide_eq_false_iff_not, decide_eq_true_eq, Int32.lt_iff_toInt_lt, show (-32 : Int32).toInt = -32 from rfl, show (31 : Int32).toInt = 31 from rfl]
  have e : v &&& (1 - 1) = 0 := by rw [show (1 - 1 : Int32) = 0 from by decide]; exact Int32.and_zero
  constructor
  · rintro ⟨⟨a, b⟩, -⟩; omega
  · rintro ⟨a, b⟩; exact ⟨⟨by omega, by omega⟩, e⟩
theorem fit105 (v : Int32) : fitB 105 v = true ↔ (-2048 ≤ v.toInt ∧ v.toInt ≤ 2047) := by
  rw [fitB_105]
  unfold inW
  simp only [Bool.and_eq_true, Bool.not_eq_true', decide_eq_false_iff_not, decide_eq_true_eq, Int32.lt_iff_toInt_lt, show (-2048 : Int32).toInt = -2048 from rfl, show (2047 : Int32).toInt = 2047 from rfl]
  have e : v &&& (1 - 1) = 0 := by rw [show (1 - 1 : Int32) = 0 from by decide]; exact Int32.and_zero
  constructor
  · rintro ⟨⟨a, b⟩, -⟩; omega
  · rintro ⟨a, b⟩; exact ⟨⟨by omega, by omega⟩, e⟩
theorem i_c (v : Int32) : ((v ≤ -33) ↔ v.toInt ≤ -33) ∧ ((32 ≤ v) ↔ 32 ≤ v.toInt) ∧ ((v < -2048) ↔ v.toInt < -2048) ∧ ((v ≤ 2047) ↔ v.toInt ≤ 2047) ∧ ((v ≤ -2049) ↔ v.toInt ≤ -2049) ∧ ((2048 ≤ v) ↔ 2048 ≤ v.toInt) ∧ ((v < -32) ↔ v.toInt < -32) ∧ ((v ≤ 31) ↔ v.toInt ≤ 31) := by
  simp only [Int32.lt_iff_toInt_lt, Int32.le_iff_toInt_le]
  exact ⟨Iff.rfl, Iff.rfl, Iff.rfl, Iff.rfl, Iff.rfl, Iff.rfl, Iff.rfl, Iff.rfl⟩
section
variable {N : Nat} {X : List Int32} {σ0 : MS} {Λ : List Lb} {ln cur start : Nat}
theorem FS_others_264 {F : Int32} {σ : MS} (h : FS X σ0 F σ) (x1 x3 x4 : Int32) : RR (M_others_264 N x1 x3 x4 σ) (fun _ σ' => FS X σ0 F σ') := by
  unfold M_others_264 M_others_304 M_others_321
  have w := RR_then (k := fun _ σ2 => some ((0 : Int32), σ2)) (Q := fun _ σ' => FS X σ0 F σ') (FS_word h ((19 ||| (x3 <<< ((7 : Int32) &&& 31))) ||| (x4 <<< ((20 : Int32) &&& 31)))) (fun _ _ h2 => RR_ret h2)
  exact RR_if (fun _ => RR_if (fun _ => RR_ret h) (fun _ => RR_if (fun _ => RR_ret h) (fun _ => RR_if (fun _ => w) (fun _ => RR_if (fun _ => w) (fun _ => RR_if (fun _ => RR_ret h) (fun _ => w)))))) (fun _ => RR_ret h)
theorem FS_others_215 {F : Int32} {σ : MS} (h : FS X σ0 F σ) (x1 x3 x4 x6 : Int32) : RR (M_others_215 N x1 x3 x4 x6 σ) (fun _ σ' => FS X σ0 F σ') := by
  have e242 : RR (M_others_242 N x1 x3 x4 x6 σ) (fun _ σ' => FS X σ0 F σ') := by
    unfold M_others_242
    exact RR_then (FS_word h _) (fun _ _ h2 => FS_others_264 h2 _ _ _)
  have e237 : RR (M_others_237 N x1 x3 x4 x6 σ) (fun _ σ' => FS X σ0 F σ') := by
    unfold M_others_237
    exact RR_if (fun _ => FS_others_264 h _ _ _) (fun _ => e242)
  unfold M_others_215
  exact RR_if (fun _ => e242) (fun _ => RR_if (fun _ => e237) (fun _ => RR_if (fun _ => FS_others_264 h _ _ _) (fun _ => e237)))
theorem FS_others_94 {F : Int32} {σ : MS} (h : FS X σ0 F σ) (x1 x3 t0 : Int32) : RR (M_others_94 N x1 x3 t0 σ) (fun _ σ' => FS X σ0 F σ') := by
  have e182 : ∀ x5 x6, RR (M_others_182 N x1 x3 t0 x5 x6 σ) (fun _ σ' => FS X σ0 F σ') := by
    intro x5 x6
    unfold M_others_182 M_others_198
    exact RR_if (fun _ => RR_then (FS_word h _) (fun _ _ h2 => FS_others_215 h2 _ _ _ _)) (fun _ => RR_if (fun _ => FS_others_215 h _ _ _ _) (fun _ => RR_then (FS_word h _) (fun _ _ h2 => FS_others_215 h2 _ _ _ _)))
  unfold M_others_94
  exact RR_bnd (RR_if (fun _ => RR_then (FS_word h _) (fun _ _ h2 => FS_others_215 h2 _ _ _ _)) (fun _ => RR_if (fun _ => e182 _ _) (fun _ => RR_if (fun _ => e182 _ _) (fun _ => RR_if (fun _ => e182 _ _) (fun _ => RR_cr (M_six_eq _) (RR_then (FS_half h _) (fun _ _ h2 => FS_others_215 h2 _ _ _ _)))))))
theorem G_li {j : Nat} (hj : j < 32) {r : List AT} {B : List Int32} {σ : MS} (h : GR X σ0 r B σ) (v : Int32) : RR (M_others_94 N 39 (nI j) v σ) (fun _ σ' => GR X σ0 r (B ++ liB (liI (rb 100 (nI j)) v)) σ') := by
  obtain ⟨l1, l2⟩ := li_8 j hj
  obtain ⟨i1, i2, i3, i4, i5, i6, i7, i8⟩ := i_c v
  have f78 := fit78 v
  have f105 := fit105 v
  unfold M_others_94
  refine RR_bnd (RR_n (by decide) ?_)
  by_cases cs : fitB 78 v = true ∧ rb 100 (nI j) ≠ 0
  · have hv := f78.mp cs.1
    have hd : nI j ≠ 0 := fun z => cs.2 (l2.mpr z)
    refine RR_n (fun z => by have := i1.mp z; omega) (RR_n (fun z => by have := i2.mp z; omega) (RR_n hd (RR_cr (M_six_eq _) (RR_then (G_half h _) (fun _ σ2 h2 => ?_)))))
    unfold M_others_215 M_others_264 M_others_321
    refine RR_n (by decide) (RR_n (fun z => by have := i3.mp z; omega) (RR_y (i4.mpr (by omega)) (RR_y rfl (RR_n (fun z => by have := i5.mp z; omega) (RR_n (fun z => by have := i6.mp z; omega) (RR_n hd (RR_n (fun z => by have := i7.mp z; omega) (RR_y (i8.mpr (by omega)) (RR_ret ?_)))))))))
    unfold liI liB
    rw [if_pos cs, rb_100]
    simp only [List.flatMap_cons, List.flatMap_nil, List.append_nil]
    exact h2
  · have e182 : RR (M_others_182 N 39 (nI j) v (jush (v + 2048) 12) ((v <<< ((20 : Int32) &&& 31)) >>> ((20 : Int32) &&& 31)) σ) (fun _ σ' => GR X σ0 r (B ++ liB (liI (rb 100 (nI j)) v)) σ') := by
      unfold M_others_182
      by_cases cr : fitB 105 v = true
      · have hv := f105.mp cr
        have w304 : RR (M_others_304 N (nI j) v σ) (fun _ σ' => GR X σ0 r (B ++ liB (liI (rb 100 (nI j)) v)) σ') := by
          unfold M_others_304 M_others_321
          refine RR_then (G_word h _) (fun _ σ2 h2 => RR_ret ?_)
          unfold liI liB
          rw [if_neg cs, if_pos cr, rb_100]
          simp only [List.flatMap_cons, List.flatMap_nil, List.append_nil]
          exact h2
        refine RR_n (fun z => by have := i3.mp z; omega) (RR_y (i4.mpr (by omega)) ?_)
        unfold M_others_215 M_others_264
        refine RR_n (by decide) (RR_n (fun z => by have := i3.mp z; omega) (RR_y (i4.mpr (by omega)) (RR_y rfl (RR_n (fun z => by have := i5.mp z; omega) (RR_n (fun z => by have := i6.mp z; omega) (RR_if (fun _ => w304) (fun hd => RR_if (fun _ => w304) (fun y => RR_n (fun z => ?_) w304))))))))
        refine cs ⟨f78.mpr ⟨?_, i8.mp z⟩, fun q => hd (l2.mp q)⟩
        have : ¬ v.toInt < -32 := fun q => y (i7.mpr q)
        omega
      · have hv : v.toInt < -2048 ∨ 2047 < v.toInt := by
          have : ¬ (-2048 ≤ v.toInt ∧ v.toInt ≤ 2047) := fun z => cr (f105.mpr z)
          omega
        have e264 : ∀ (Bs : List Int32) (σ3 : MS), GR X σ0 r Bs σ3 → RR (M_others_264 N 39 (nI j) v σ3) (fun _ σ' => GR X σ0 r Bs σ') := by
          intro Bs σ3 h3
          unfold M_others_264 M_others_321
          refine RR_y rfl (RR_if (fun _ => RR_ret h3) (fun a => RR_y (i6.mpr ?_) (RR_ret h3)))
          have : ¬ v.toInt ≤ -2049 := fun q => a (i5.mpr q)
          omega
        have e198 : RR (M_others_198 N 39 (nI j) v (jush (v + 2048) 12) ((v <<< ((20 : Int32) &&& 31)) >>> ((20 : Int32) &&& 31)) σ) (fun _ σ' => GR X σ0 r (B ++ liB (liI (rb 100 (nI j)) v)) σ') := by
          unfold M_others_198
          refine RR_then (G_word h _) (fun _ σ2 h2 => ?_)
          have e237 : RR (M_others_237 N 39 (nI j) v ((v <<< ((20 : Int32) &&& 31)) >>> ((20 : Int32) &&& 31)) σ2) (fun _ σ' => GR X σ0 r (B ++ liB (liI (rb 100 (nI j)) v)) σ') := by
            unfold M_others_237
            refine RR_if (fun z => ?_) (fun z => ?_)
            · have e : liB (liI (rb 100 (nI j)) v) = wB ((55 ||| (nI j <<< ((7 : Int32) &&& 31))) ||| (jush (v + 2048) 12 <<< ((12 : Int32) &&& 31))) 4 := by
                unfold liI liB
                rw [if_neg cs, if_neg cr, if_pos ((low_0 v).mp z), rb_100]
                simp only [List.flatMap_cons, List.flatMap_nil, List.append_nil]
              rw [e]
              exact e264 _ σ2 h2
            · have e : liB (liI (rb 100 (nI j)) v) = wB ((55 ||| (nI j <<< ((7 : Int32) &&& 31))) ||| (jush (v + 2048) 12 <<< ((12 : Int32) &&& 31))) 4 ++ wB (((19 ||| (nI j <<< ((7 : Int32) &&& 31))) ||| (nI j <<< ((15 : Int32) &&& 31))) ||| (v <<< ((20 : Int32) &&& 31))) 4 := by
                unfold liI liB
                rw [if_neg cs, if_neg cr, if_neg (fun y => z ((low_0 v).mpr y)), l1, rb_100]
                simp only [List.flatMap_cons, List.flatMap_nil, List.append_nil]
              unfold M_others_242
              refine RR_then (G_word h2 _) (fun _ σ3 h3 => ?_)
              rw [e, ← List.append_assoc]
              rw [shl_20] at h3
              exact e264 _ σ3 h3
          unfold M_others_215
          refine RR_n (by decide) (RR_if (fun _ => e237) (fun a => RR_n (fun z => ?_) e237))
          have h1 : ¬ v.toInt < -2048 := fun q => a (i3.mpr q)
          have h2 := i4.mp z
          omega
        refine RR_if (fun _ => e198) (fun a => RR_n (fun z => ?_) e198)
        have h1 : ¬ v.toInt < -2048 := fun q => a (i3.mpr q)
        have h2 := i4.mp z
        omega
    refine RR_if (fun _ => e182) (fun a => RR_if (fun _ => e182) (fun b => RR_y (Decidable.not_not.mp (fun hd => cs ⟨f78.mpr ?_, fun q => hd (l2.mp q)⟩)) e182))
    have h1 : ¬ v.toInt ≤ -33 := fun q => a (i1.mpr q)
    have h2 : ¬ 32 ≤ v.toInt := fun q => b (i2.mpr q)
    omega
/-- a register, a comma, a fixed number: fault, the register's bits, the number, what is left -/
def ldT (η : Int32 → AT → Int32 × Bool) (lo : AT → Bool) (ts : List AT) : Nat × Int32 × Int32 × List AT :=
  if (regT 100 ts).1 ≠ 0 then ((regT 100 ts).1, 0, 0, []) else match tk1 44 (regT 100 ts).2.2 with
    | none => (1, 0, 0, [])
    | some x => match cmpT x.2 with
      | none => (1, 0, 0, [])
      | some y => if fxF η lo (-2147483648) 2147483647 y.1 ≠ 0 then (fxF η lo (-2147483648) 2147483647 y.1, 0, 0, []) else (0, (regT 100 ts).2.1, (evV η y.1).1, y.2)
def OutL (X : List Int32) (σ0 : MS) (ln : Nat) (B : List Int32) (t : Nat × Int32 × Int32 × List AT) (σ : MS) : Prop :=
  if t.1 ≠ 0 then (σ0.1 17 ≠ 0 ∨ FS X σ0 (fl ln t.1) σ) else GR X σ0 t.2.2.2 (B ++ liB (liI t.2.1 t.2.2.1)) σ
theorem O_39 (C : Cx N X σ0 Λ ln cur start) {w : Int32} {ts : List AT} {B : List Int32} {σ : MS} (h : GR X σ0 ts B σ) : RR (M_others N 39 w σ) (fun _ σ' => OutL X σ0 ln B (ldT (η0 X Λ σ0 start) (loR X Λ) ts) σ') := by
  have outf : ∀ (k : Nat) (σ' : MS), k ≠ 0 → (ldT (η0 X Λ σ0 start) (loR X Λ) ts).1 = k → FS X σ0 (fl ln k) σ' → OutL X σ0 ln B (ldT (η0 X Λ σ0 start) (loR X Λ) ts) σ' := by
    intro k σ' hk he hF
    unfold OutL
    rw [he, if_pos hk]
    exact Or.inr hF
  unfold M_others
  refine RR_then (G_taken C h) (fun v σ1 h1 => RR_n (by decide) ?_)
  rcases h1 with ⟨e1, e2, e3⟩ | ⟨e1, e2, e3⟩
  · obtain ⟨j, j1, j2⟩ := tkR_n e1
    have er : regT 100 ts = (0, rb 100 (nI j), (tkR ts).2.2) := by
      unfold regT
      rw [if_neg (fun z => z e1), j2, if_neg (rb_pos j j1 100 (by decide))]
    rw [e2, j2]
    refine RR_then (G_comma C e3) (fun v2 σ2 h2 => ?_)
    rcases h2 with ⟨a, r, f1, f2, f3⟩ | ⟨f1, f2, f3⟩
    · refine RR_n (by rw [f2]; decide) (RR_y (by decide) (RR_y rfl (RR_then (G_fixed C f3 _ _) (fun v3 σ3 h3 => ?_))))
      have el : ldT (η0 X Λ σ0 start) (loR X Λ) ts = match cmpT r with
          | none => (1, 0, 0, [])
          | some y => if fxF (η0 X Λ σ0 start) (loR X Λ) (-2147483648) 2147483647 y.1 ≠ 0 then (fxF (η0 X Λ σ0 start) (loR X Λ) (-2147483648) 2147483647 y.1, 0, 0, []) else (0, rb 100 (nI j), (evV (η0 X Λ σ0 start) y.1).1, y.2) := by
        unfold ldT
        rw [er, if_neg (fun z => z rfl)]
        simp only [f1]
      rcases h3 with ⟨g1, g2⟩ | ⟨R, rest, g1, g2, g3, g4⟩
      · rw [g1] at el
        exact RR_imp (FS_others_94 g2 _ _ _) (fun _ σ' h' => outf 1 σ' (by decide) (by rw [el]) h')
      · rw [g1] at el
        simp only [] at el
        by_cases hz : fxF (η0 X Λ σ0 start) (loR X Λ) (-2147483648) 2147483647 R = 0
        · obtain ⟨q1, q2⟩ := g2 hz
          rw [if_neg (fun z => z hz)] at el
          rw [q1, el]
          refine RR_imp (G_li j1 q2 _) (fun _ σ' h' => ?_)
          unfold OutL
          rw [if_neg (fun z => z rfl)]
          exact h'
        · rw [if_pos hz] at el
          by_cases hm : σ0.1 17 = 0
          · exact RR_imp (FS_others_94 (g3 hz hm) _ _ _) (fun _ σ' h' => outf _ σ' hz (by rw [el]) h')
          · have any : ∀ σ', OutL X σ0 ln B (ldT (η0 X Λ σ0 start) (loR X Λ) ts) σ' := by
              intro σ'
              unfold OutL
              rw [el, if_pos hz]
              exact Or.inl hm
            rcases g4 with g | g | g | ⟨F, g5, g6⟩
            · exact absurd g hm
            · exact absurd g hz
            · exact RR_imp (G_li j1 g _) (fun _ σ' _ => any σ')
            · exact RR_imp (FS_others_94 g6 _ _ _) (fun _ σ' _ => any σ')
    · refine RR_y f2 (RR_ret (outf 1 σ2 (by decide) ?_ f3))
      unfold ldT
      rw [er, if_neg (fun z => z rfl)]
      simp only [f1]
  · have er : regT 100 ts = ((tkR ts).1, 0, []) := by
      unfold regT
      rw [if_pos e1]
    refine RR_imp (F_comma (fl_ne0 C ⟨by omega, tkR_le ts⟩) e3) (fun _ σ' h' => outf (tkR ts).1 σ' e1 ?_ h')
    unfold ldT
    rw [er, if_pos e1]
end
