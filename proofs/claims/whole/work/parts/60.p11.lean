/-! ===== the reference's pile: signs from below, values from above ===== -/
def PS (σ : MS) (S V : List Int32) : Prop :=
  (σ.1 27 = nI S.length) ∧ (σ.1 28 = nI (4100 - V.length)) ∧ (S.length + V.length ≤ 4100) ∧ (∀ i, i < S.length → σ.2 7 (S.length - 1 - i) = S.getD i 0) ∧ (∀ i, i < V.length → σ.2 7 (4100 - V.length + i) = V.getD i 0)
def FX (σ σ' : MS) : Prop := (∀ j, j ≠ 25 → j ≠ 27 → j ≠ 28 → σ'.1 j = σ.1 j) ∧ (∀ k, k ≠ 7 → σ'.2 k = σ.2 k)
theorem FX.rf (σ : MS) : FX σ σ := ⟨fun _ _ _ _ => rfl, fun _ _ => rfl⟩
theorem FX.tr {σ τ ρ : MS} (h1 : FX σ τ) (h2 : FX τ ρ) : FX σ ρ := ⟨fun j a b c => (h2.1 j a b c).trans (h1.1 j a b c), fun k a => (h2.2 k a).trans (h1.2 k a)⟩
theorem sA_ne {σ : MS} {k j i : Nat} {v : Int32} (h : j ≠ k) : (sA σ k i v).2 j = σ.2 j := if_neg h
theorem sA_eq {σ : MS} {k i : Nat} {v : Int32} : (sA σ k i v).2 k = upd (σ.2 k) i v := if_pos rfl
theorem M_sign_eq {σ : MS} {S V : List Int32} (h : PS σ S V) (hr : S.length + V.length < 4100) (x : Int32) : ∃ σ', M_sign x σ = some (0, σ') ∧ PS σ' (x :: S) V ∧ FX σ σ' ∧ σ'.1 25 = σ.1 25 := by
  obtain ⟨h1, h2, h3, h4, h5⟩ := h
  refine ⟨sF (sA σ 7 S.length x) 27 (nI (S.length + 1)), ?_, ⟨?_, ?_, ?_, ?_, ?_⟩, ⟨?_, ?_⟩, ?_⟩
  · unfold M_sign
    rw [h1, gd_t (inB_nI (by omega) (by omega)), nI_clamp (by omega)]
    simp only [bnd]
    rw [show (sA σ 7 S.length x).1 27 = nI S.length from h1, nI_1]
  · simp [sF, upd]
  · show (sA σ 7 S.length x).1 28 = _
    exact h2
  · simp only [List.length_cons]; omega
  · intro i hi
    show (sA σ 7 S.length x).2 7 _ = _
    rw [sA_eq]
    simp only [List.length_cons] at hi ⊢
    cases i with
    | zero => rw [show S.length + 1 - 1 - 0 = S.length by omega, pk_us]; rfl
    | succ i =>
      rw [show S.length + 1 - 1 - (i + 1) = S.length - 1 - i by omega, pk_un (by omega), h4 i (by omega)]
      rfl
  · intro i hi
    show (sA σ 7 S.length x).2 7 _ = _
    rw [sA_eq, pk_un (by omega), h5 i hi]
  · intro j a b c
    exact sF_ne _ _ b
  · intro k hk
    exact sA_ne hk
  · rfl
theorem M_value_eq {σ : MS} {S V : List Int32} (h : PS σ S V) (hr : S.length + V.length < 4100) (x : Int32) : ∃ σ', M_value x σ = some (0, σ') ∧ PS σ' S (x :: V) ∧ FX σ σ' ∧ σ'.1 25 = σ.1 25 := by
  obtain ⟨h1, h2, h3, h4, h5⟩ := h
  have e1 : σ.1 28 - 1 = nI (4100 - (V.length + 1)) := by
    rw [h2, show 4100 - V.length = (4100 - (V.length + 1)) + 1 by omega]
    exact nI_pred _
  refine ⟨sA (sF σ 28 (nI (4100 - (V.length + 1)))) 7 (4100 - (V.length + 1)) x, ?_, ⟨?_, ?_, ?_, ?_, ?_⟩, ⟨?_, ?_⟩, ?_⟩
  · unfold M_value
    simp only [bnd, e1, sF_at]
    rw [gd_t (inB_nI (by omega) (by omega)), nI_clamp (by omega)]
  · exact h1
  · rfl
  · simp only [List.length_cons]; omega
  · intro i hi
    rw [sA_eq]
    show upd (σ.2 7) _ _ _ = _
    rw [pk_un (by omega), h4 i hi]
  · intro i hi
    rw [sA_eq]
    show upd (σ.2 7) _ _ _ = _
    simp only [List.length_cons] at hi ⊢
    cases i with
    | zero => exact pk_us
    | succ i =>
      rw [pk_un (by omega), show 4100 - (V.length + 1) + (i + 1) = 4100 - V.length + i by omega, h5 i (by omega)]
      rfl
  · intro j a b c
    exact sF_ne σ _ c
  · intro k hk
    rw [sA_ne hk]
    rfl
  · rfl
def wk (s a b : Int32) : Int32 := if s = 6 then a <<< ((b &&& 31) &&& 31) else if s = 7 then a >>> ((b &&& 31) &&& 31) else if s = 38 then a &&& b else if s = 42 then a * b else if s = 43 then a + b else if s = 45 then a - b else if s = 94 then a ^^^ b else if s = 124 then a ||| b else if b = 0 then 0 else if s = 47 then a / b else jrem a b
def dvz (s b : Int32) : Bool := !(decide (s = 6 ∨ s = 7 ∨ s = 38 ∨ s = 42 ∨ s = 43 ∨ s = 45 ∨ s = 94 ∨ s = 124)) && decide (b = 0)
theorem M_worked_eq (s a b : Int32) {σ : MS} {d : Bool} (hd : σ.1 25 = b2 d) : ∃ σ', M_worked s a b σ = some (wk s a b, σ') ∧ σ'.1 25 = b2 (d || dvz s b) ∧ (∀ j, j ≠ 25 → σ'.1 j = σ.1 j) ∧ σ'.2 = σ.2 := by
  have pl : dvz s b = false → (σ.1 25 = b2 (d || dvz s b)) := fun h => by rw [h, Bool.or_false]; exact hd
  unfold M_worked wk
  by_cases c1 : s = 6
  · rw [if_pos c1, if_pos c1]; exact ⟨σ, rfl, pl (by simp [dvz, c1]), fun _ _ => rfl, rfl⟩
  rw [if_neg c1, if_neg c1]
  by_cases c2 : s = 7
  · rw [if_pos c2, if_pos c2]; exact ⟨σ, rfl, pl (by simp [dvz, c2]), fun _ _ => rfl, rfl⟩
  rw [if_neg c2, if_neg c2]
  by_cases c3 : s = 38
  · rw [if_pos c3, if_pos c3]; exact ⟨σ, rfl, pl (by simp [dvz, c3]), fun _ _ => rfl, rfl⟩
  rw [if_neg c3, if_neg c3]
  by_cases c4 : s = 42
  · rw [if_pos c4, if_pos c4]; exact ⟨σ, rfl, pl (by simp [dvz, c4]), fun _ _ => rfl, rfl⟩
  rw [if_neg c4, if_neg c4]
  by_cases c5 : s = 43
  · rw [if_pos c5, if_pos c5]; exact ⟨σ, rfl, pl (by simp [dvz, c5]), fun _ _ => rfl, rfl⟩
  rw [if_neg c5, if_neg c5]
  by_cases c6 : s = 45
  · rw [if_pos c6, if_pos c6]; exact ⟨σ, rfl, pl (by simp [dvz, c6]), fun _ _ => rfl, rfl⟩
  rw [if_neg c6, if_neg c6]
  by_cases c7 : s = 94
  · rw [if_pos c7, if_pos c7]; exact ⟨σ, rfl, pl (by simp [dvz, c7]), fun _ _ => rfl, rfl⟩
  rw [if_neg c7, if_neg c7]
  by_cases c8 : s = 124
  · rw [if_pos c8, if_pos c8]; exact ⟨σ, rfl, pl (by simp [dvz, c8]), fun _ _ => rfl, rfl⟩
  rw [if_neg c8, if_neg c8]
  have hz : dvz s b = decide (b = 0) := by simp [dvz, c1, c2, c3, c4, c5, c6, c7, c8]
  have key : ∀ t : Bool, ∃ σ', M_worked_131 s a b (b2 t) σ = some ((if b = 0 then 0 else if s = 47 then a / b else jrem a b), σ') ∧ σ'.1 25 = b2 t ∧ (∀ j, j ≠ 25 → σ'.1 j = σ.1 j) ∧ σ'.2 = σ.2 := by
    intro t
    refine ⟨sF σ 25 (b2 t), ?_, sF_at _ _ _, fun j hj => sF_ne _ _ hj, rfl⟩
    unfold M_worked_131 M_worked_157
    rw [gd_t (by cases t <;> decide)]
    simp only [bnd]
    by_cases hb : b = 0
    · rw [if_pos hb, if_pos hb]
    · rw [if_neg hb, if_neg hb]
      have hnz : nz b = true := by simp [nz, hb]
      by_cases h47 : s = 47
      · rw [if_pos h47, if_pos h47, gd_t hnz]
      · rw [if_neg h47, if_neg h47, gd_t hnz]
  rw [hz]
  cases d with
  | false =>
    rw [if_pos (show σ.1 25 = 0 from hd)]
    by_cases hb : b = 0
    · rw [if_pos hb]
      have k1 := key true
      unfold M_worked_126
      rw [show decide (b = 0) = true by simp [hb]]
      exact k1
    · have k0 := key false
      rw [if_neg hb, show decide (b = 0) = false by simp [hb]]
      exact k0
  | true =>
    have k1 := key true
    rw [if_neg (by rw [hd]; decide)]
    unfold M_worked_126
    rw [Bool.true_or]
    exact k1
theorem M_join_eq {σ : MS} {s a b : Int32} {S V : List Int32} {d : Bool} (h : PS σ (s :: S) (b :: a :: V)) (hd : σ.1 25 = b2 d) : ∃ σ', M_join σ = some (0, σ') ∧ PS σ' S (wk s a b :: V) ∧ FX σ σ' ∧ σ'.1 25 = b2 (d || dvz s b) := by
  obtain ⟨h1, h2, h3, h4, h5⟩ := h
  simp only [List.length_cons] at h1 h2 h3 h4 h5
  have e1 : σ.1 27 - 1 = nI S.length := by rw [h1]; exact nI_pred _
  have e2 : σ.1 28 + 1 = nI (4100 - (V.length + 1)) := by
    rw [h2, nI_1]; congr 1; omega
  have gs : σ.2 7 S.length = s := by have := h4 0 (by omega); simpa using this
  have gb : σ.2 7 (4100 - (V.length + 1 + 1)) = b := by have := h5 0 (by omega); simpa using this
  have ga : σ.2 7 (4100 - (V.length + 1)) = a := by
    have := h5 1 (by omega)
    rw [show 4100 - (V.length + 1 + 1) + 1 = 4100 - (V.length + 1) by omega] at this
    simpa using this
  have hw := M_worked_eq s a b (σ := sF (sF σ 27 (nI S.length)) 28 (nI (4100 - (V.length + 1)))) (d := d) (by rw [sF_ne _ _ (by decide), sF_ne _ _ (by decide)]; exact hd)
  obtain ⟨σ', w1, w2, w3, w4⟩ := hw
  refine ⟨sA σ' 7 (4100 - (V.length + 1)) (wk s a b), ?_, ⟨?_, ?_, ?_, ?_, ?_⟩, ⟨?_, ?_⟩, w2⟩
  · unfold M_join
    simp only [bnd, e1]
    have g28 : (sF σ 27 (nI S.length)).1 28 = nI (4100 - (V.length + 1 + 1)) := by rw [sF_ne _ _ (by decide)]; exact h2
    rw [g28, gd_t (inB_nI (by omega) (by omega)), show nI (4100 - (V.length + 1 + 1)) + 1 = nI (4100 - (V.length + 1)) by rw [nI_1]; congr 1; omega]
    rw [show (sF (sF σ 27 (nI S.length)) 28 (nI (4100 - (V.length + 1)))).1 27 = nI S.length from rfl, show (sF (sF σ 27 (nI S.length)) 28 (nI (4100 - (V.length + 1)))).1 28 = nI (4100 - (V.length + 1)) from rfl]
    rw [gd_t (inB_nI (by omega) (by omega)), gd_t (inB_nI (by omega) (by omega)), nI_clamp (by omega), nI_clamp (by omega), nI_clamp (by omega)]
    rw [show (sF (sF σ 27 (nI S.length)) 28 (nI (4100 - (V.length + 1)))).2 7 S.length = s from gs, show (sF (sF σ 27 (nI S.length)) 28 (nI (4100 - (V.length + 1)))).2 7 (4100 - (V.length + 1)) = a from ga, show (sF σ 27 (nI S.length)).2 7 (4100 - (V.length + 1 + 1)) = b from gb, w1]
    simp only [cl, Option.bind_some]
    rw [gd_t (inB_nI (by omega) (by omega))]
  · show σ'.1 27 = _
    rw [w3 27 (by decide)]; rfl
  · show σ'.1 28 = _
    rw [w3 28 (by decide)]; rfl
  · simp only [List.length_cons]; omega
  · intro i hi
    rw [sA_eq, w4, pk_un (by omega)]
    have := h4 (i + 1) (by omega)
    rw [show S.length + 1 - 1 - (i + 1) = S.length - 1 - i by omega] at this
    exact this
  · intro i hi
    rw [sA_eq, w4]
    simp only [List.length_cons] at hi ⊢
    cases i with
    | zero => exact pk_us
    | succ i =>
      rw [pk_un (by omega)]
      have := h5 (i + 2) (by omega)
      rw [show 4100 - (V.length + 1 + 1) + (i + 2) = 4100 - (V.length + 1) + (i + 1) by omega] at this
      exact this
  · intro j x y z
    show σ'.1 j = _
    rw [w3 j x, sF_ne _ _ z, sF_ne _ _ y]
  · intro k hk
    rw [sA_ne hk, w4]
    rfl
/-- the reference's unary signs -/
def isU (s : Int32) : Bool := decide (1 < s) && decide (s ≤ 5)
def un (s v : Int32) : Int32 := if s = 2 then -v else if s = 3 then v ^^^ -1 else if s = 4 then jush (v + 2048) 12 else (v <<< ((20 : Int32) &&& 31)) >>> ((20 : Int32) &&& 31)
def drU : List Int32 → List Int32
  | [] => []
  | s :: S => if isU s = true then drU S else s :: S
def apU : List Int32 → Int32 → Int32
  | [], v => v
  | s :: S, v => if isU s = true then apU S (un s v) else v
theorem M_bind_eq {N : Nat} : ∀ (n : Nat) (S V : List Int32) (v : Int32) (σ : MS), PS σ S (v :: V) → S.length + 1 < n → ∃ σ', M_bind_2 N n 1 σ = some (0, σ') ∧ PS σ' (drU S) (apU S v :: V) ∧ FX σ σ' ∧ σ'.1 25 = σ.1 25 := by
  intro n
  induction n with
  | zero => intro S V v σ h hn; omega
  | succ n ih =>
    intro S V v σ h hn
    have h0 := h
    obtain ⟨h1, h2, h3, h4, h5⟩ := h
    simp only [List.length_cons] at h2 h3 h5
    rw [M_bind_2]
    show ∃ σ', (if (1 : Int32) = 0 then _ else _) = _ ∧ _
    rw [if_neg (by decide), h1]
    cases S with
    | nil =>
      rw [if_pos (by decide)]
      exact ⟨σ, rfl, h0, FX.rf σ, rfl⟩
    | cons s S =>
      simp only [List.length_cons] at h1 h3 h4 hn ⊢
      have e1 : nI (S.length + 1) - 1 = nI S.length := nI_pred _
      have gs : σ.2 7 S.length = s := by have := h4 0 (by omega); simpa using this
      have gv : σ.2 7 (4100 - (V.length + 1)) = v := by have := h5 0 (by omega); simpa using this
      rw [if_neg (by rw [show (0 : Int32) = nI 0 from rfl, nI_leI (by omega) (by omega)]; omega), e1, gd_t (inB_nI (by omega) (by omega)), nI_clamp (by omega), gs]
      simp only [bnd]
      rw [h2, gd_t (inB_nI (by omega) (by omega)), nI_clamp (by omega), gv]
      have stop : isU s = false → ∃ σ', M_bind_2 N n 0 σ = some (0, σ') ∧ PS σ' (drU (s :: S)) (apU (s :: S) v :: V) ∧ FX σ σ' ∧ σ'.1 25 = σ.1 25 := by
        intro hu
        obtain ⟨n', rfl⟩ : ∃ n', n = n' + 1 := ⟨n - 1, by omega⟩
        refine ⟨σ, ?_, ?_, FX.rf σ, rfl⟩
        · rw [M_bind_2]; rfl
        · unfold drU apU
          rw [hu]
          exact h0
      by_cases c1 : s ≤ 1
      · rw [if_pos c1]
        exact stop (by simp [isU, Int32.not_lt.mpr c1])
      · rw [if_neg c1]
        by_cases c2 : 5 < s
        · rw [if_pos c2]
          exact stop (by simp [isU, Int32.not_le.mpr c2])
        · rw [if_neg c2]
          have hu : isU s = true := by simp [isU, Int32.not_le.mp c1, Int32.not_lt.mp c2]
          have key : ∃ σ', M_bind_110 N (M_bind_2 N n) 1 (nI (4100 - (V.length + 1))) (un s v) σ = some (0, σ') ∧ PS σ' (drU (s :: S)) (apU (s :: S) v :: V) ∧ FX σ σ' ∧ σ'.1 25 = σ.1 25 := by
            unfold M_bind_110
            rw [gd_t (inB_nI (by omega) (by omega)), nI_clamp (by omega)]
            simp only [bnd]
            rw [show (sA σ 7 (4100 - (V.length + 1)) (un s v)).1 27 = nI (S.length + 1) from h1, e1]
            have hps : PS (sF (sA σ 7 (4100 - (V.length + 1)) (un s v)) 27 (nI S.length)) S (un s v :: V) := by
              refine ⟨sF_at _ _ _, ?_, by simp only [List.length_cons]; omega, ?_, ?_⟩
              · rw [sF_ne _ _ (by decide)]; exact h2
              · intro i hi
                show (sA σ 7 _ _).2 7 _ = _
                rw [sA_eq, pk_un (by omega)]
                have := h4 (i + 1) (by omega)
                rw [show S.length + 1 - 1 - (i + 1) = S.length - 1 - i by omega] at this
                exact this
              · intro i hi
                show (sA σ 7 _ _).2 7 _ = _
                rw [sA_eq]
                simp only [List.length_cons] at hi ⊢
                cases i with
                | zero => exact pk_us
                | succ i => rw [pk_un (by omega)]; exact h5 (i + 1) (by omega)
            obtain ⟨σ', a1, a2, a3, a4⟩ := ih S V (un s v) _ hps (by omega)
            refine ⟨σ', a1, ?_, ?_, ?_⟩
            · unfold drU apU
              rw [hu]
              exact a2
            · refine FX.tr ⟨?_, ?_⟩ a3
              · intro j x y z; rw [sF_ne _ _ y]; rfl
              · intro k hk; exact sA_ne hk
            · rw [a4, sF_ne _ _ (by decide)]; rfl
          unfold M_bind_50
          rw [if_neg (by decide)]
          by_cases d1 : s = 2
          · rw [if_pos d1]
            have : un s v = -v := by simp [un, d1]
            rw [this] at key; rw [h2]; exact key
          rw [if_neg d1]
          by_cases d2 : s = 3
          · rw [if_pos d2]
            have : un s v = v ^^^ -1 := by simp [un, d2]
            rw [this] at key; rw [h2]; exact key
          rw [if_neg d2]
          by_cases d3 : s = 4
          · rw [if_pos d3]
            have : un s v = jush (v + 2048) 12 := by simp [un, d3]
            rw [this] at key; rw [h2]; exact key
          rw [if_neg d3]
          have : un s v = (v <<< ((20 : Int32) &&& 31)) >>> ((20 : Int32) &&& 31) := by simp [un, d1, d2, d3]
          rw [this] at key; rw [h2]; exact key
