/-! ===== lines; what is known of the events ===== -/
theorem shownS_nl {w : Nat → Int32} {n p : Nat} {q : Int32} (h : ¬ (shownS w n p q).1 < 0) : ∀ j, p ≤ j → j < (shownS w n p q).2 → ch w n j ≠ 10 := by
  intro j h1 h2
  unfold shownS at h h2
  simp only [] at h h2
  by_cases c10 : ch w n p = 10
  · rw [if_pos c10] at h; exact absurd (show ((-1 : Int32) < 0) by decide) h
  rw [if_neg c10] at h h2
  by_cases cq : ch w n p = q
  · rw [if_pos cq] at h; exact absurd (show ((-1 : Int32) < 0) by decide) h
  rw [if_neg cq] at h h2
  by_cases c92 : ch w n p = 92
  · rw [if_pos c92] at h h2
    simp only [] at h h2
    rcases (show j = p ∨ j = p + 1 by omega) with e | e
    · rw [e]; exact c10
    · rw [e]
      intro z
      rw [z] at h
      exact h (by decide)
  · rw [if_neg c92] at h2
    simp only [] at h2
    rw [show j = p by omega]
    exact c10
theorem strS_nl (w : Nat → Int32) (n : Nat) : ∀ (m k : Nat), n - k ≤ m → ∀ s e, strS w n k = some (s, e) → ∀ j, k ≤ j → j ≤ e → ch w n j ≠ 10 := by
  intro m
  induction m with
  | zero =>
    intro k hk s e h j h1 h2
    rw [strS] at h
    by_cases c34 : ch w n k = 34
    · rw [if_pos c34] at h
      cases h
      rw [show j = k by omega, c34]; decide
    · rw [if_neg c34] at h
      split at h
      · cases h
      · rw [dif_neg (by omega)] at h; cases h
  | succ m ih =>
    intro k hk s e h j h1 h2
    rw [strS] at h
    by_cases c34 : ch w n k = 34
    · rw [if_pos c34] at h
      cases h
      rw [show j = k by omega, c34]; decide
    · rw [if_neg c34] at h
      split at h
      · cases h
      · rename_i hn
        split at h
        · cases hs : strS w n (shownS w n k 34).2 with
          | none => rw [hs] at h; cases h
          | some x =>
            rw [hs] at h
            cases h
            have hl := shownS_le w n k 34
            by_cases hj : j < (shownS w n k 34).2
            · exact shownS_nl hn j h1 hj
            · exact ih _ (by omega) _ _ hs j (by omega) h2
        · cases h
theorem isPl_10 {c : Int32} (h : isPl c = true) : c ≠ 10 := by
  intro z; rw [z] at h; exact absurd h (by decide)
theorem tok_nl {X : List Int32} {q : Nat} (hq : q < X.length) {a : AT} (h : tokC X q = some a) (h0 : a.k ≠ 0) : ∀ j, q ≤ j → j < a.e → tw X j ≠ 10 := by
  have hE := tokC_e hq h
  intro j h1 h2
  have hjn : j < X.length := by omega
  have hch : ∀ c : Int32, ch (tw X) X.length j ≠ c → tw X j ≠ c := fun c z => by rw [ch_in hjn] at z; exact z
  unfold tokC at h
  simp only [] at h
  split at h
  · rename_i hd
    have hpl : isPl (ch (tw X) X.length q) = true := by rw [ch_in hq]; exact isDg_pl hd
    have hlt := (pend_pl hpl).1
    cases hn : numC (tw X) q (digTk (tw X) q (pend (tw X) X.length q)) with
    | none => rw [hn] at h; cases h
    | some t =>
      rw [hn] at h
      cases h
      have he := digTk_e (tw X) hlt hn
      change j < t.2 at h2
      rw [he] at h2
      exact isPl_10 (pend_all _ _ q j h1 h2)
  · split at h
    · split at h
      · cases h
      · cases h
        exact isPl_10 (pend_all _ _ q j h1 h2)
    · split at h
      · rename_i c39
        unfold chrC at h
        split at h
        · rename_i hk
          cases h
          change j < (chrTk (tw X) X.length q).to at h2
          unfold chrTk at hk h2
          simp only [] at hk h2
          split at hk
          · rename_i hc
            rw [if_pos hc] at h2
            change j < (shownS (tw X) X.length (q + 1) 39).2 + 1 at h2
            by_cases e1 : j = q
            · rw [e1, c39]; decide
            · by_cases e2 : j = (shownS (tw X) X.length (q + 1) 39).2
              · apply hch
                rw [e2, hc.2.1]; decide
              · exact hch 10 (shownS_nl hc.1 j (by omega) (by omega))
          · exact absurd hk (by show ¬ ((5 : Int32) = 2); decide)
        · cases h
      · split at h
        · rename_i c34
          cases hs : strS (tw X) X.length (q + 1) with
          | none => rw [hs] at h; cases h
          | some t =>
            rw [hs] at h
            cases h
            change j < t.2 + 1 at h2
            by_cases e1 : j = q
            · rw [e1, c34]; decide
            · exact hch 10 (strS_nl _ _ _ (q + 1) (Nat.le_refl _) t.1 t.2 hs j (by omega) (by omega))
        · unfold sgnC at h
          simp only [] at h
          split at h
          · cases h; exact absurd rfl h0
          · rename_i c10
            split at h
            · split at h
              · rename_i hc
                cases h
                change j < q + 2 at h2
                rcases (show j = q ∨ j = q + 1 by omega) with e | e
                · rw [e]; exact c10
                · apply hch
                  rw [e, hc]; exact c10
              · cases h
            · split at h
              · cases h
                change j < q + 1 at h2
                rw [show j = q by omega]; exact c10
              · cases h
/-- a token that is neither end nor bad, where it stands -/
theorem lexS_at {X : List Int32} {q : Nat} {a : AT} {r : List AT} (hl : lexS X q = a :: r) (h0 : a.k ≠ 0) (h1 : a.k ≠ 1) : tokC X a.p = some a ∧ a.p = skipB (tw X) X.length q ∧ a.p < X.length := by
  rw [lexS_skip] at hl
  have h3 := skipB_at (tw X) X.length q
  generalize skipB (tw X) X.length q = p at hl h3 ⊢
  by_cases hend : p < X.length
  · have gb : ¬ (X.getD p 0 = 32 ∨ X.getD p 0 = 9) := fun z => h3 ⟨hend, z.symm⟩
    rw [lexS, dif_pos hend, if_neg gb] at hl
    by_cases h35 : X.getD p 0 = 35
    · exfalso
      rw [if_pos h35] at hl
      have hb : p + 1 ≤ lend (tw X) X.length p := by
        rw [lend, dif_pos ⟨hend, by show X.getD p 0 ≠ 10; rw [h35]; decide⟩]
        exact lend_ge _ _ _
      have hle := lend_le (tw X) X.length p (by omega)
      have hat := lend_at (tw X) X.length p
      rw [Nat.max_eq_left hb] at hl
      by_cases he : lend (tw X) X.length p < X.length
      · have h10 : tw X (lend (tw X) X.length p) = 10 := Decidable.not_not.mp (fun z => hat ⟨he, z⟩)
        rw [lexS_nl he h10] at hl
        cases hl
        exact h0 rfl
      · rw [lexS_end (by omega)] at hl
        cases hl
        exact h0 rfl
    · rw [if_neg h35] at hl
      split at hl
      · cases hl; exact absurd rfl h1
      · rename_i b hb
        obtain ⟨g1, g2, g3, g4⟩ := tokC_e hend hb
        rw [dif_pos g1] at hl
        injection hl with e1 e2
        subst e1
        rw [g3]
        exact ⟨hb, rfl, hend⟩
  · rw [lexS_end (by omega)] at hl
    cases hl
    exact absurd rfl h0
theorem lend_run {w : Nat → Int32} {n : Nat} : ∀ (k p : Nat), (∀ j, p ≤ j → j < p + k → j < n ∧ w j ≠ 10) → lend w n p = lend w n (p + k)
  | 0, p, _ => rfl
  | k + 1, p, h => by
    rw [lend, dif_pos (h p (Nat.le_refl _) (by omega)), lend_run k (p + 1) (fun j h1 h2 => h j (by omega) (by omega))]
    congr 1
    omega
theorem lend_no (w : Nat → Int32) (n : Nat) : ∀ (m p : Nat), n - p ≤ m → ∀ j, p ≤ j → j < lend w n p → w j ≠ 10 := by
  intro m
  induction m with
  | zero =>
    intro p hp j h1 h2
    rw [lend, dif_neg (by omega)] at h2
    omega
  | succ m ih =>
    intro p hp j h1 h2
    rw [lend] at h2
    split at h2
    · rename_i hc
      by_cases e : j = p
      · rw [e]; exact hc.2
      · exact ih (p + 1) (by omega) j (by omega) h2
    · omega
/-- a token lies within its line -/
theorem lexS_line {X : List Int32} {q : Nat} {a : AT} {r : List AT} (hl : lexS X q = a :: r) (h0 : a.k ≠ 0) (h1 : a.k ≠ 1) : lend (tw X) X.length a.e = lend (tw X) X.length q ∧ lend (tw X) X.length a.p = lend (tw X) X.length q ∧ q ≤ a.p ∧ a.p < a.e ∧ a.e ≤ X.length ∧ r = lexS X a.e ∧ lexS X a.p = a :: r ∧ a.e ≤ lend (tw X) X.length q := by
  obtain ⟨t1, t2, t3⟩ := lexS_at hl h0 h1
  obtain ⟨f1, f2⟩ := lexS_F hl h0 h1
  obtain ⟨g1, g2, g3, g4⟩ := tokC_e t3 t1
  have e1 : lend (tw X) X.length a.p = lend (tw X) X.length q := by rw [t2, lend_skip]
  have e2 : lend (tw X) X.length a.e = lend (tw X) X.length a.p := by
    have := lend_run (w := tw X) (n := X.length) (a.e - a.p) a.p (fun j h1 h2 => ⟨by omega, tok_nl t3 t1 h0 j h1 (by omega)⟩)
    rw [show a.p + (a.e - a.p) = a.e by omega] at this
    exact this.symm
  refine ⟨e2.trans e1, e1, ?_, g1, g2, f2, ?_, ?_⟩
  · rw [t2]; exact skipB_ge _ _ _
  · rw [t2, ← lexS_skip]; exact hl
  · rw [← e1, ← e2]; exact lend_ge _ _ _
/-- lines ended before a place -/
def nlc (X : List Int32) : Nat → Nat
  | 0 => 0
  | k + 1 => nlc X k + if tw X k = 10 then 1 else 0
theorem nlc_run (X : List Int32) : ∀ (k p : Nat), (∀ j, p ≤ j → j < p + k → tw X j ≠ 10) → nlc X (p + k) = nlc X p
  | 0, p, _ => rfl
  | k + 1, p, h => by
    show nlc X (p + k) + (if tw X (p + k) = 10 then 1 else 0) = _
    rw [if_neg (h (p + k) (by omega) (by omega)), nlc_run X k p (fun j h1 h2 => h j h1 (by omega))]
    rfl
theorem nlc_line {X : List Int32} {q p : Nat} (h1 : q ≤ p) (h2 : p ≤ lend (tw X) X.length q) : nlc X p = nlc X q := by
  have := nlc_run X (p - q) q (fun j h3 h4 => lend_no (tw X) X.length _ q (Nat.le_refl _) j h3 (by omega))
  rw [show q + (p - q) = p by omega] at this
  exact this
theorem nlc_next {X : List Int32} {q : Nat} (hq : q ≤ X.length) (h : lend (tw X) X.length q < X.length) : nlc X (lend (tw X) X.length q + 1) = nlc X q + 1 := by
  show nlc X (lend (tw X) X.length q) + (if tw X (lend (tw X) X.length q) = 10 then 1 else 0) = _
  rw [if_pos (Decidable.not_not.mp (fun z => lend_at (tw X) X.length q ⟨h, z⟩)), nlc_line (lend_ge _ _ _) (Nat.le_refl _)]
theorem nlc_le (X : List Int32) : ∀ p, nlc X p ≤ p
  | 0 => Nat.le_refl _
  | k + 1 => by
    have := nlc_le X k
    show nlc X k + _ ≤ _
    split <;> omega
theorem lN_32 {n : Nat} (h : n < 2 ^ 31) : (lN n).toInt32 = nI n := by
  apply Int32.toInt_inj.mp
  rw [nI_toInt h]
  unfold lN
  rw [Int64.toInt_toInt32, Int64.toInt_ofNat_of_lt (by omega)]
  unfold Int.bmod
  simp only []
  split <;> omega
/-- a digit's token -/
theorem lexS_4 {X : List Int32} {q : Nat} {a : AT} {r : List AT} (hl : lexS X q = a :: r) (h4 : a.k = 4) : isDg (tw X a.p) = true ∧ a.v = tw X a.p - 48 ∧ a.e = a.p + 1 := by
  have h0 : a.k ≠ 0 := by rw [h4]; decide
  have h1 : a.k ≠ 1 := by rw [h4]; decide
  obtain ⟨t1, t2, t3⟩ := lexS_at hl h0 h1
  have he := (dig1 hl (Or.inr h4)).mpr h4
  generalize a.p = p at *
  unfold tokC at t1
  simp only [] at t1
  split at t1
  · rename_i hd
    refine ⟨hd, ?_, he⟩
    have hpl : isPl (ch (tw X) X.length p) = true := by rw [ch_in t3]; exact isDg_pl hd
    have hlt := (pend_pl hpl).1
    cases hn : numC (tw X) p (digTk (tw X) p (pend (tw X) X.length p)) with
    | none => rw [hn] at t1; cases t1
    | some t =>
      rw [hn] at t1
      have e1 := digTk_e (tw X) hlt hn
      cases t1
      have epe : pend (tw X) X.length p = p + 1 := by rw [← e1]; exact he
      rw [epe] at hn
      show t.1.2.1 = _
      unfold digTk at hn
      simp only [] at hn
      rw [if_neg (Nat.lt_irrefl (p + 1)), if_neg (fun z => absurd z.1 (by omega)), if_neg (show ¬ (tw X p = 48 ∧ (0 : Int32) = 120) from fun z => absurd z.2 (by decide)), if_neg (show ¬ (tw X p = 48 ∧ (0 : Int32) = 98) from fun z => absurd z.2 (by decide))] at hn
      obtain ⟨k, k1, k2, k3⟩ := dg_n hd
      have hw : worthS (tw X p) = k - 48 := by
        unfold worthS
        rw [if_pos hd, k3, show (48 : Int32) = nI 48 from rfl, pk_sub k1, nI_clamp (by omega)]
      have hnum : numeralS (tw X) p (p + 1) 10 = some (k - 48) := by
        unfold numeralS
        rw [if_pos (by omega), show p + 1 - p = 0 + 1 by omega, numS, hw, if_pos (by omega), if_pos (by omega), numS]
        congr 1
        omega
      rw [hnum] at hn
      unfold digE numC at hn
      rw [if_neg (show ¬ (2 : Int32) = 3 by decide), if_pos (show (2 : Int32) = 2 from rfl)] at hn
      cases hn
      show (lN (k - 48)).toInt32 = _
      rw [k3, show (48 : Int32) = nI 48 from rfl, pk_sub k1, lN_32 (by omega)]
  · exfalso
    split at t1
    · split at t1
      · cases t1
      · cases t1; exact absurd h4 (by show ¬ ((2 : Int32) = 4); decide)
    · split at t1
      · unfold chrC at t1
        split at t1
        · cases t1; exact absurd h4 (by show ¬ ((3 : Int32) = 4); decide)
        · cases t1
      · split at t1
        · cases hs : strS (tw X) X.length (p + 1) with
          | none => rw [hs] at t1; cases t1
          | some t => rw [hs] at t1; cases t1; exact absurd h4 (by show ¬ ((6 : Int32) = 4); decide)
        · unfold sgnC at t1
          simp only [] at t1
          split at t1
          · cases t1; exact absurd h4 (by show ¬ ((0 : Int32) = 4); decide)
          · split at t1
            · rename_i hc
              split at t1
              · cases t1
                change tw X p = 4 at h4
                rw [h4] at hc
                exact absurd hc (by decide)
              · cases t1
            · split at t1
              · rename_i hs
                cases t1
                change tw X p = 4 at h4
                rw [h4] at hs
                exact absurd hs (by decide)
              · cases t1
/-- a name's token -/
theorem lexS_2 {X : List Int32} {q : Nat} {a : AT} {r : List AT} (hl : lexS X q = a :: r) (h2 : a.k = 2) : a.nm = nmAt X a.p ∧ isPl (tw X a.p) = true ∧ a.e = pend (tw X) X.length a.p ∧ a.e ≤ a.p + 31 := by
  obtain ⟨f1, f2⟩ := lexS_F hl (by rw [h2]; decide) (by rw [h2]; decide)
  obtain ⟨g1, g2, g3, g4, g5⟩ := f1.2.2.2 h2
  refine ⟨?_, g3, g2, g5⟩
  unfold nmAt
  rw [← g2]
  exact g1
