/-! ===== feed() of the reference ===== -/
theorem okB_T {c : Int32} (h : okB c = true) : okT c := by
  have := of_decide_eq_true h
  unfold okT
  exact this
theorem chr_T {c : Int32} (h : okT c) : vp_nar .char ((c.toUInt32 % 65536).toInt32) = c := by
  obtain ⟨k, hk, rfl⟩ := okT_nI h
  rw [(chr_128 k (by omega)).2]
  exact nar_ok k (by omega)
section
variable {N : Nat} {σ : MS}
theorem sA_at (σ : MS) (k i : Nat) (v : Int32) : (sA σ k i v).2 k i = v := by unfold sA upd; simp
theorem sA_o (σ : MS) (k : Nat) {i j : Nat} (v : Int32) (h : j ≠ i) : (sA σ k i v).2 k j = σ.2 k j := by unfold sA upd; simp [h]
theorem M_f94 (z : Int64) : ∀ (k m : Nat) (X : List Int32) (σ : MS), k ≤ 8 → k < m → TY X σ → X.length + k ≤ 4096 → (∀ j, j < k → okB (bz z j) = true) → ∃ σ', M_feed_94 N m z (nI k - 1) σ = some (1, σ') ∧ TY (X ++ fb z k) σ' ∧ (∀ j, j ≠ 1 → σ'.1 j = σ.1 j) ∧ ∀ a, a ≠ 0 → σ'.2 a = σ.2 a := by
  intro k
  induction k with
  | zero =>
    intro m X σ _ hm hT _ _
    obtain ⟨m', rfl⟩ : ∃ m', m = m' + 1 := ⟨m - 1, by omega⟩
    simp only [M_feed_94]
    rw [if_pos (by decide)]
    exact ⟨σ, rfl, by rw [fb, List.append_nil]; exact hT, fun _ _ => rfl, fun _ _ => rfl⟩
  | succ k ih =>
    intro m X σ h8 hm hT hl hok
    obtain ⟨m', rfl⟩ : ∃ m', m = m' + 1 := ⟨m - 1, by omega⟩
    obtain ⟨t1, t2, t3, t4⟩ := hT
    have hb : (((z >>> ((8 * nI k).toInt64 &&& 63)) &&& (255 : Int64)).toInt32) = bz z k := (b64 z k (by omega)).symm
    have hT := okB_T (hok k (by omega))
    simp only [M_feed_94]
    rw [show nI (k + 1) - 1 = nI k from pk_sub (a := k + 1) (b := 1) (by omega), if_neg (nI_pos (by omega)), t1, gd_t (inB_nI (by omega) (by decide)), nI_clamp (by omega), hb, chr_T hT]
    simp only [bnd]
    have e1 : (sA σ 0 X.length (bz z k)).1 1 + 1 = nI (X.length + 1) := by
      show σ.1 1 + 1 = _
      rw [t1]; exact nI_add _ 1
    rw [e1, show nI k + -1 = nI k - 1 from (Int32.sub_eq_add_neg ..).symm]
    have hT2 : TY (X ++ [bz z k]) (sF (sA σ 0 X.length (bz z k)) 1 (nI (X.length + 1))) := by
      refine ⟨by rw [sF_at, List.length_append]; rfl, by rw [List.length_append]; simp only [List.length_cons, List.length_nil]; omega, fun j hj => ?_, fun c hc => ?_⟩
      · rw [List.length_append] at hj
        simp only [List.length_cons, List.length_nil] at hj
        show (sA σ 0 X.length (bz z k)).2 0 j = (X ++ [bz z k]).getD j 0
        by_cases hjx : j = X.length
        · rw [hjx, sA_at]
          exact (getD_mid X [] (bz z k) 0).symm
        · rw [sA_o _ _ _ hjx, gD_l (by omega)]
          exact t3 j (by omega)
      · rcases List.mem_append.mp hc with q | q
        · exact t4 c q
        · rw [List.mem_singleton.mp q]; exact hT
    obtain ⟨σ', q1, q2, q3, q4⟩ := ih m' (X ++ [bz z k]) _ (by omega) (by omega) hT2 (by rw [List.length_append]; simp only [List.length_cons, List.length_nil]; omega) (fun j hj => hok j (by omega))
    refine ⟨σ', q1, ?_, fun j hj => ?_, fun a ha => ?_⟩
    · rw [fb]
      rw [List.append_assoc] at q2
      exact q2
    · rw [q3 j hj, sF_ne _ _ hj]; rfl
    · rw [q4 a ha]
      show (sA σ 0 X.length (bz z k)).2 a = σ.2 a
      unfold sA
      simp [ha]
theorem M_f33 (hN : 100 < N) (z : Int64) {n : Nat} (hn : n ≤ 8) {X : List Int32} (hT : TY X σ) (hl : X.length + n ≤ 4096) : ∀ (d i m : Nat), i + d = n → d < m → (∀ j, j < i → okB (bz z j) = true) → ∃ σ', M_feed_33 N m z (nI n) (nI i) σ = some (b2 (alB z i d), σ') ∧ TY (if alB z i d = true then X ++ fb z n else X) σ' ∧ (∀ j, j ≠ 1 → σ'.1 j = σ.1 j) ∧ ∀ a, a ≠ 0 → σ'.2 a = σ.2 a := by
  intro d
  induction d with
  | zero =>
    intro i m hi hm hok
    obtain ⟨m', rfl⟩ : ∃ m', m = m' + 1 := ⟨m - 1, by omega⟩
    simp only [M_feed_33]
    rw [if_pos (by rw [show i = n by omega]; exact Int32.le_refl _)]
    obtain ⟨σ', q1, q2, q3, q4⟩ := M_f94 (N := N) z n N X σ hn (by omega) hT hl (fun j hj => hok j (by omega))
    exact ⟨σ', q1, by rw [alB, if_pos rfl]; exact q2, q3, q4⟩
  | succ d ih =>
    intro i m hi hm hok
    obtain ⟨m', rfl⟩ : ∃ m', m = m' + 1 := ⟨m - 1, by omega⟩
    have hb : (((z >>> ((8 * nI i).toInt64 &&& 63)) &&& (255 : Int64)).toInt32) = bz z i := (b64 z i (by omega)).symm
    simp only [M_feed_33]
    rw [if_neg (fun z => absurd ((nI_leI (by omega) (by omega)).mp z) (by omega))]
    unfold M_feed_83 M_feed_81
    simp only [bnd]
    rw [hb, show nI i + 1 = nI (i + 1) from nI_add i 1]
    by_cases hk : okB (bz z i) = true
    · obtain ⟨σ', q1, q2, q3, q4⟩ := ih (i + 1) m' (by omega) (by omega) (fun j hj => by
        by_cases hji : j = i
        · rw [hji]; exact hk
        · exact hok j (by omega))
      refine ⟨σ', ?_, by rw [alB, hk, Bool.true_and]; exact q2, q3, q4⟩
      rw [alB, hk, Bool.true_and]
      have hT' := of_decide_eq_true hk
      by_cases h9 : bz z i = 9
      · rw [if_pos h9]; exact q1
      rw [if_neg h9]
      by_cases h10 : bz z i = 10
      · rw [if_pos h10]; exact q1
      rw [if_neg h10]
      rcases hT' with c | c | c
      · exact absurd c h9
      · exact absurd c h10
      · rw [if_neg (Int32.not_lt.mpr c.1), if_pos c.2]; exact q1
    · have hk' : okB (bz z i) = false := by simpa using hk
      have hn' := of_decide_eq_false hk'
      refine ⟨σ, ?_, by rw [alB, hk', Bool.false_and, if_neg (by decide)]; exact hT, fun _ _ => rfl, fun _ _ => rfl⟩
      rw [alB, hk', if_neg (fun c => hn' (Or.inl c)), if_neg (fun c => hn' (Or.inr (Or.inl c)))]
      by_cases h32 : bz z i < 32
      · rw [if_pos h32]; rfl
      · rw [if_neg h32, if_neg (fun c => hn' (Or.inr (Or.inr ⟨Int32.not_lt.mp h32, c⟩)))]; rfl
end
/-- feed: the same on both sides -/
theorem Q_feed {N : Nat} (hN : 100 < N) {X : List Int32} {sG sR sL sX sP sI sE sY sN sT sF' : CS} {σ : MS} {x y : Nat} (hX : RowL sX X) (hT : TY X σ) (hl : X.length + 8 ≤ 4096) (z : Int64) (a3 : Int32) : ∃ X' r σ', X'.length ≤ X.length + 8 ∧ RC (2 * sX.2.2 0 + x, sX.2.2 0 + y) (C_Asm_feed N z a3 sG sR sL sX sE sY sF' sN sT sP sI) (fun v u c => v = r ∧ RowL u X' ∧ c = (2 * u.2.2 0 + x, u.2.2 0 + y)) ∧ M_feed N z a3 σ = some (r, σ') ∧ TY X' σ' ∧ σ'.1 0 = 0 ∧ (∀ j, j ≠ 0 → j ≠ 1 → σ'.1 j = σ.1 j) ∧ ∀ a, a ≠ 0 → σ'.2 a = σ.2 a := by
  have hT0 : TY X (sF σ 0 0) := ⟨by rw [sF_ne _ _ (by decide)]; exact hT.1, hT.2.1, hT.2.2.1, hT.2.2.2⟩
  have no : ∀ (hz : RC (2 * sX.2.2 0 + x, sX.2.2 0 + y) (C_Asm_feed N z a3 sG sR sL sX sE sY sF' sN sT sP sI) (fun v u c => v = 0 ∧ RowL u X ∧ c = (2 * u.2.2 0 + x, u.2.2 0 + y))), M_feed N z a3 σ = some (0, sF σ 0 0) → ∃ X' r σ', X'.length ≤ X.length + 8 ∧ RC (2 * sX.2.2 0 + x, sX.2.2 0 + y) (C_Asm_feed N z a3 sG sR sL sX sE sY sF' sN sT sP sI) (fun v u c => v = r ∧ RowL u X' ∧ c = (2 * u.2.2 0 + x, u.2.2 0 + y)) ∧ M_feed N z a3 σ = some (r, σ') ∧ TY X' σ' ∧ σ'.1 0 = 0 ∧ (∀ j, j ≠ 0 → j ≠ 1 → σ'.1 j = σ.1 j) ∧ ∀ a, a ≠ 0 → σ'.2 a = σ.2 a := fun hz hm => ⟨X, 0, sF σ 0 0, by omega, hz, hm, hT0, sF_at _ _ _, fun j h0 _ => sF_ne _ _ h0, fun _ _ => rfl⟩
  by_cases h1 : a3 < 1
  · refine no ?_ ?_
    · unfold C_Asm_feed C_Asm_feed_25; exact RC_y h1 (RC_ret ⟨rfl, hX, rfl⟩)
    · unfold M_feed M_feed_28; simp only [bnd]; rw [if_pos h1]
  by_cases h8 : 8 < a3
  · refine no ?_ ?_
    · unfold C_Asm_feed C_Asm_feed_25; exact RC_n h1 (RC_y h8 (RC_ret ⟨rfl, hX, rfl⟩))
    · unfold M_feed M_feed_28; simp only [bnd]; rw [if_neg h1, if_pos h8]
  obtain ⟨n, n1, n2, rfl⟩ := i_sub (a := 1) (b := 8) (Int32.not_lt.mp h1) (Int32.not_lt.mp h8) (by omega) (by omega)
  obtain ⟨σ', q1, q2, q3, q4⟩ := M_f33 (σ := sF σ 0 0) hN z n2 hT0 (by omega) n 0 N (by omega) (by omega) (fun j hj => absurd hj (Nat.not_lt_zero _))
  refine ⟨if alB z 0 n = true then X ++ fb z n else X, b2 (alB z 0 n), σ', ?_, ?_, ?_, q2, ?_, fun j h0 h1 => ?_, fun a ha => ?_⟩
  · split
    · rw [List.length_append, fb_len]; omega
    · omega
  · unfold C_Asm_feed
    refine RC_n h1 (RC_n h8 (RC_y ?_ ?_))
    · rw [hX.cnt, show (65536 : Int32) = nI 65536 from rfl, pk_sub (by omega)]
      exact (nI_leI (by omega) (by omega)).mpr (by omega)
    · exact C_f30 hN z n2 hX (by omega) n 0 N (by omega) (by omega)
  · unfold M_feed
    simp only [bnd]
    rw [if_neg h1, if_neg h8, sF_ne _ _ (by decide), hT.1, nI_add, if_pos (show nI (X.length + n) ≤ 65536 from (nI_leI (b := 65536) (by omega) (by omega)).mpr (by omega))]
    exact q1
  · rw [q3 0 (by decide), sF_at]
  · rw [q3 j h1, sF_ne _ _ h0]
  · rw [q4 a ha]; rfl
