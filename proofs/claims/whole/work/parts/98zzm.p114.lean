/-! ===== the names that stay: a name with its tables ===== -/
section
variable {N : Nat} {ns : List (List Int32)} {p so va op re od : List Int32} {σ : CS} {x y : Nat}
theorem RC_three (h : NamL σ ns [] so va op re od) (h2 : 2 * op.length + 64 ≤ 140000) (h3 : 2 * re.length + 64 ≤ 140000) (h4 : 2 * od.length + 64 ≤ 140000) (a b c : Int32) {α τ : Type} {Q : α → τ → Nat × Nat → Prop} {k : CS → Option ((α × τ) × (Nat × Nat))} (hk : ∀ σ', NamL σ' ns [] so va (op ++ [a]) (re ++ [b]) (od ++ [c]) → Nm1 σ σ' → RC (np σ' x y) (k σ') Q) : RC (np σ x y) (ct (C_Row_add a (rg σ 2)) (fun _ u => bnd (rs σ 2 u) (fun s1 => ct (C_Row_add c (rg s1 4)) (fun _ u => bnd (rs s1 4 u) (fun s2 => ct (C_Row_add b (rg s2 3)) (fun _ u => bnd (rs s2 3 u) k)))))) Q := by
  obtain ⟨r0, r1, r2, r3, r4, r5, r6, r7, r8, hh, hc, hd, l1, l2, nd⟩ := h
  refine RC_ntab (Or.inl rfl) r2 h2 a (fun s1 p1 p2 p3 p4 p5 => ?_)
  refine RC_ntab (Or.inr (Or.inr rfl)) (show RowL (rg s1 4) od by rw [p2 4 (by decide)]; exact r4) h4 c (fun s2 q1 q2 q3 q4 q5 => ?_)
  refine RC_ntab (Or.inr (Or.inl rfl)) (show RowL (rg s2 3) re by rw [q2 3 (by decide), p2 3 (by decide)]; exact r3) h3 b (fun s3 t1 t2 t3 t4 t5 => ?_)
  have row : ∀ r, r ≠ 2 → r ≠ 3 → r ≠ 4 → rg s3 r = rg σ r := fun r a b c => by rw [t2 r b, q2 r c, p2 r a]
  have num : ∀ j, j < 100 → s3.1 j = σ.1 j := fun j hj => by rw [t3 j hj, q3 j hj, p3 j hj]
  refine hk s3 ⟨?_, ?_, ?_, t1, ?_, ?_, ?_, ?_, ?_, ?_, ?_, ?_, l1, l2, nd⟩ (fun j _ hj => num j hj)
  · rw [row 0 (by decide) (by decide) (by decide)]; exact r0
  · rw [row 1 (by decide) (by decide) (by decide)]; exact r1
  · rw [t2 2 (by decide), q2 2 (by decide)]; exact p1
  · rw [t2 4 (by decide)]; exact q1
  · rw [row 5 (by decide) (by decide) (by decide)]; exact r5
  · rw [row 6 (by decide) (by decide) (by decide)]; exact r6
  · rw [row 7 (by decide) (by decide) (by decide)]; exact r7
  · rw [row 8 (by decide) (by decide) (by decide)]; exact r8
  · rw [num 0 (by decide)]; exact hh
  · rw [t5, q5, p5]; exact hc
  · intro s hs
    rw [t4, q4, p4]; exact hd s hs
theorem RC_putAll (hN : 1000 < N) {k1 : Nat} (hk : k1 < 188) : ∀ (n i m : Nat) (p : List Int32) (σ : CS), i + n = (strB k1).length → n < m → NamL σ ns p so va op re od → 2 * (ns.flatten.length + p.length + n) + 64 ≤ 140000 → RC (np σ x y) (C_Nam_putAll_2 N m k1 (nI i) σ) (fun _ u c => c = np u x y ∧ NamL u ns (p ++ (strB k1).drop i) so va op re od ∧ Nm1 σ u) := by
  have hl := str_len k1 hk
  intro n
  induction n with
  | zero =>
    intro i m p σ hi hm h _
    obtain ⟨m', rfl⟩ : ∃ m', m = m' + 1 := ⟨m - 1, by omega⟩
    rw [C_Nam_putAll_2]
    refine RC_gd (decide_eq_true hk) (RC_cr (C_slen hk) (RC_y (by rw [show i = (strB k1).length by omega]; exact Int32.le_refl _) (RC_ret ⟨rfl, ?_, Nm1.rf _⟩)))
    rw [List.drop_eq_nil_of_le (by omega), List.append_nil]
    exact h
  | succ n ih =>
    intro i m p σ hi hm h hb
    obtain ⟨m', rfl⟩ : ∃ m', m = m' + 1 := ⟨m - 1, by omega⟩
    rw [C_Nam_putAll_2]
    refine RC_gd (decide_eq_true hk) (RC_cr (C_slen hk) (RC_n (fun z => absurd ((nI_leI (by omega) (by omega)).mp z) (by omega)) (RC_gd (decide_eq_true hk) (RC_cr (C_schar hk (by omega)) ?_))))
    refine RC_then (RC_nput h _ (by rw [List.length_append]; omega)) (fun v u c hu => ?_)
    obtain ⟨rfl, u2, u3⟩ := hu
    rw [show nI i + 1 = nI (i + 1) from nI_add i 1]
    refine RC_imp (ih (i + 1) m' _ u (by omega) (by omega) u2 (by rw [List.length_append]; simp only [List.length_cons, List.length_nil]; omega)) (fun v w c hw => ⟨hw.1, ?_, u3.tr hw.2.2⟩)
    have hw2 := hw.2.1
    have hlt : i < (strB k1).length := by omega
    rw [List.append_assoc] at hw2
    rw [List.drop_eq_getElem_cons hlt]
    rw [gD_e hlt] at hw2
    exact hw2
end
