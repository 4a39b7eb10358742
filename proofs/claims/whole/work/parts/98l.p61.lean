/-! ===== stretch() and the check, whole ===== -/
theorem nar_ok : ∀ k, k < 128 → vp_nar .char (nI k) = nI k := by decide +kernel
theorem okT_nI {c : Int32} (h : okT c) : ∃ k, k < 127 ∧ c = nI k := by
  rcases h with e | e | ⟨h1, h2⟩
  · exact ⟨9, by omega, e⟩
  · exact ⟨10, by omega, e⟩
  · obtain ⟨k, k1, k2, k3⟩ := i_sub (a := 32) (b := 126) h1 h2 (by omega) (by omega)
    exact ⟨k, by omega, k3⟩
theorem okT_nar {c : Int32} (h : okT c) : vp_nar .char c = c := by
  obtain ⟨k, hk, rfl⟩ := okT_nI h
  exact nar_ok k (by omega)
theorem bytI_J {mk w : Int32} {lev : Nat} {R : List XSt} (hJ : isJ mk = true) : bytI [(mk, w, 2 * 2 ^ lev, R, ([] : List Int32))] = nI (2 * 2 ^ lev) := by
  have h3 : mk ≠ 3 := by intro z; rw [z] at hJ; exact absurd hJ (by decide)
  show (if mk = 3 then _ else nI (ilens _)) = _
  rw [if_neg h3]
  rfl
theorem StR.q {σ : MS} {i : Nat} {e : Ev} (h : StR σ i e) (hS : SIt e.2.2.2.2.2) : StQ σ i e := by
  refine ⟨h.1, ?_⟩
  split
  · exact h.2
  · rename_i hk
    rw [h.2]
    rcases hS with ⟨h1, h2⟩ | ⟨k, k1, he⟩ | ⟨mk, w, lev, R, he, hJ, h1, h2⟩
    · exact absurd (by rw [levI_0 (fun i hi => (h1 i hi).2)]) hk
    · exact absurd (by rw [he, levI_0 (fun i hi => by rw [List.mem_singleton.mp hi]; rfl)]) hk
    · have hm := (len0_J (w := w) hJ).2.2
      rw [he, bytI_J hJ]
      have : 2 ^ lev ≤ 2 ^ 2 := Nat.pow_le_pow_right (by omega) (by omega)
      rw [show (0 : Int32) = nI 0 from rfl, nI_leI (by omega) (by omega)]
      omega
section
variable {N : Nat} {X : List Int32} {E : List Ev} {σ σA : MS} {ln : Nat}
theorem M_lineOf_eq (T : TX σ (tw X) X.length) (hN : 4200 < N) {p : Nat} (hp : p ≤ X.length) : M_lineOf N (nI p) σ = some (nI (nlc X p + 1)) := by
  have hs := T.small
  have loop : ∀ (m k : Nat), k ≤ p → p - k < m → M_lineOf_4 N m (nI p) (nI (nlc X k + 1)) (nI k) σ = some (nI (nlc X p + 1)) := by
    intro m
    induction m with
    | zero => intro k _ h; omega
    | succ m ih =>
      intro k hk hm
      rw [M_lineOf_4]
      show (if nI p ≤ nI k then _ else _) = _
      by_cases h : p ≤ k
      · rw [if_pos (by rw [nI_leI (by omega) (by omega)]; exact h), show k = p by omega]
      · rw [if_neg (by rw [nI_leI (by omega) (by omega)]; exact h), gd_t (inB_nI (by omega) (by omega)), nI_clamp (by omega), T.text k (by omega)]
        unfold M_lineOf_27
        rw [nI_1, nI_1]
        have := ih (k + 1) (by omega) (by omega)
        by_cases h10 : tw X k = 10
        · rw [if_pos h10]
          rw [nlc, if_pos h10] at this
          exact this
        · rw [if_neg h10]
          rw [nlc, if_neg h10] at this
          exact this
  unfold M_lineOf
  exact loop N 0 (by omega) (by omega)
/-- before and behind the growing -/
def PreL (X : List Int32) (σA : MS) (E : List Ev) (k : Nat) (σ : MS) : Prop := KF σA σ ∧ WfE X E ∧ LBk X σ (LbE E) ∧ σ.1 4 = nI (StE E).length ∧ (StE E).length ≤ 1025 ∧ (∀ i, i < (StE E).length → StQ σ i ((StE E).getD i ev0)) ∧ (∃ ln, ln < 10000 ∧ σ.1 15 = nI ln) ∧ σ.1 14 = 0 ∧ σ.1 8 = nI k
/-- a text that is laid out -/
def LdS (X : List Int32) (E : List Ev) (k : Nat) (σ : MS) : Prop := TX σ (tw X) X.length ∧ WfE X E ∧ LBs X σ (lbS (0, 0) E) ∧ σ.1 6 = nI (lay (0, 0) E).1 ∧ σ.1 7 = nI (lay (0, 0) E).2 ∧ σ.1 4 = nI (StE E).length ∧ (StE E).length ≤ 1025 ∧ (∀ i, i < (StE E).length → StQ σ i ((StE E).getD i ev0)) ∧ (∀ i, i < (StE E).length → σ.2 3 i = nI ((ofS (0, 0) E).getD i 0)) ∧ (∃ ln, ln < 10000 ∧ σ.1 15 = nI ln) ∧ σ.1 14 = 0 ∧ σ.1 8 = nI k
theorem LBs.fx {τ : MS} {Λ : List Lb} (h : LBs X σ Λ) (h5 : τ.1 5 = σ.1 5) (ha : τ.2 5 = σ.2 5) (hb : τ.2 6 = σ.2 6) : LBs X τ Λ := ⟨by rw [h5]; exact h.1, h.2.1, fun i hi => by rw [ha, hb]; exact h.2.2 i hi⟩
theorem LBk_of {s : Sz} (h : LBs X σ (lbS s E)) : LBk X σ (LbE E) := by
  refine ⟨by rw [← lbS_len E s]; exact h.1, by rw [← lbS_len E s]; exact h.2.1, fun i hi => ?_⟩
  obtain ⟨a1, a2, a3⟩ := lbS_at E s i hi
  obtain ⟨g1, g2, g3, g4⟩ := h.2.2 i (by rw [lbS_len]; exact hi)
  rw [a1] at g1 g3
  rw [a2] at g2 g3
  exact ⟨g1, g2, g3, fun z => by rw [g4]; exact a3 z⟩
theorem strE_0 {n k : Nat} (h : anX X E = false) : strE X n k E = (k, E) := by
  cases n with
  | zero => rfl
  | succ n => rw [strE, if_neg (by rw [h]; decide)]
set_option maxHeartbeats 1000000 in
theorem str_7 (hN : 4200 < N) (T0 : TX σA (tw X) X.length) : ∀ (n m : Nat) (E : List Ev) (k : Nat) (σ : MS), muE E ≤ n → n + 1 < m → k + n < 2 ^ 30 → PreL X σA E k σ → RR (M_stretch_7 N m 1 σ) (fun _ σ' => KF σA σ' ∧ LdS X (strE X n k E).2 (strE X n k E).1 σ' ∧ anX X (strE X n k E).2 = false) := by
  have hX := T0.small
  intro n
  induction n with
  | zero =>
    intro m E k σ hmu hm hk hP
    obtain ⟨p1, p2, p3, p4, p5, p6, ⟨ln, hln, p7⟩, p8, p9⟩ := hP
    have hSI := WfE_SI hX p2
    have han : anX X E = false := by
      cases h : anX X E with
      | false => rfl
      | true =>
        have := mu_gr (X := X) (Λ := lbS (0, 0) E) (B := bsE E) (s := (0, 0)) hSI
        rw [show anyG X (lbS (0, 0) E) (bsE E) (0, 0) E = true from h] at this
        simp at this
        omega
    obtain ⟨m', rfl⟩ : ∃ m', m = m' + 1 := ⟨m - 1, by omega⟩
    obtain ⟨m'', rfl⟩ : ∃ m'', m' = m'' + 1 := ⟨m' - 1, by omega⟩
    rw [M_stretch_7]
    refine RR_n (by decide) (RR_then (M_layout_eq hN hX p2 p3 p4 p5 p6) (fun _ τ hL => ?_))
    obtain ⟨L1, L2, L3, L4, L5⟩ := hL
    have kfτ : KF σA τ := p1.tr ⟨L1.1 1 (by decide) (by decide), L1.1 2 (by decide) (by decide), L1.1 3 (by decide) (by decide), L1.2 0 (by decide) (by decide), L1.2 1 (by decide) (by decide)⟩
    have C : AgC N X E ln τ := ⟨hN, kfτ.tx T0, L4, L2, by rw [L1.1 15 (by decide) (by decide)]; exact p7, hln, by rw [L1.1 14 (by decide) (by decide)]; exact p8, p2⟩
    have hS : ∀ i, i < (StE E).length → StQ τ i ((StE E).getD i ev0) := fun i hi => (p6 i hi).fly L1
    refine str_loop C (by rw [L1.1 4 (by decide) (by decide)]; exact p4) p5 hS L5 E [] N τ false rfl ⟨⟨fun _ _ => rfl, fun _ _ _ => rfl⟩, fun i hi => absurd hi (Nat.not_lt_zero _), fun _ _ => rfl⟩ (by omega) (fun τ' hI => ?_)
    rw [show (false || anyG X (lbS (0, 0) E) (bsE E) (lay (0, 0) []) E) = false from han, if_neg (by decide)]
    unfold M_stretch_113
    refine RR_bnd ?_
    rw [M_stretch_7]
    refine RR_y rfl (RR_ret ?_)
    rw [strE_0 han]
    have hgid := grE_id han
    obtain ⟨I1, I2, I3⟩ := hI
    rw [sF_self rfl]
    refine ⟨kfτ.tr I1.kf, ⟨I1.kf.tx (kfτ.tx T0), p2, L4.fx (I1.1 5 (by decide)) (I1.2 5 (by decide) (by decide)) (I1.2 6 (by decide) (by decide)), by rw [I1.1 6 (by decide)]; exact L2, by rw [I1.1 7 (by decide)]; exact L3, by rw [I1.1 4 (by decide), L1.1 4 (by decide) (by decide)]; exact p4, p5, fun i hi => ?_, fun i hi => ?_, ⟨ln, hln, by rw [I1.1 15 (by decide), L1.1 15 (by decide) (by decide)]; exact p7⟩, by rw [I1.1 14 (by decide), L1.1 14 (by decide) (by decide)]; exact p8, by rw [I1.1 8 (by decide), L1.1 8 (by decide) (by decide)]; exact p9⟩, han⟩
    · have := I2 i hi
      rw [hgid] at this
      exact this
    · rw [I1.2 3 (by decide) (by decide)]; exact L5 i hi
  | succ n ih =>
    intro m E k σ hmu hm hk hP
    obtain ⟨p1, p2, p3, p4, p5, p6, ⟨ln, hln, p7⟩, p8, p9⟩ := hP
    have hSI := WfE_SI hX p2
    obtain ⟨m', rfl⟩ : ∃ m', m = m' + 1 := ⟨m - 1, by omega⟩
    rw [M_stretch_7]
    refine RR_n (by decide) (RR_then (M_layout_eq hN hX p2 p3 p4 p5 p6) (fun _ τ hL => ?_))
    obtain ⟨L1, L2, L3, L4, L5⟩ := hL
    have kfτ : KF σA τ := p1.tr ⟨L1.1 1 (by decide) (by decide), L1.1 2 (by decide) (by decide), L1.1 3 (by decide) (by decide), L1.2 0 (by decide) (by decide), L1.2 1 (by decide) (by decide)⟩
    have C : AgC N X E ln τ := ⟨hN, kfτ.tx T0, L4, L2, by rw [L1.1 15 (by decide) (by decide)]; exact p7, hln, by rw [L1.1 14 (by decide) (by decide)]; exact p8, p2⟩
    have hS : ∀ i, i < (StE E).length → StQ τ i ((StE E).getD i ev0) := fun i hi => (p6 i hi).fly L1
    refine str_loop C (by rw [L1.1 4 (by decide) (by decide)]; exact p4) p5 hS L5 E [] N τ false rfl ⟨⟨fun _ _ => rfl, fun _ _ _ => rfl⟩, fun i hi => absurd hi (Nat.not_lt_zero _), fun _ _ => rfl⟩ (by omega) (fun τ' hI => ?_)
    obtain ⟨I1, I2, I3⟩ := hI
    cases han : anX X E with
    | false =>
      rw [show (false || anyG X (lbS (0, 0) E) (bsE E) (lay (0, 0) []) E) = false from han, if_neg (by decide)]
      unfold M_stretch_113
      refine RR_bnd ?_
      obtain ⟨m'', rfl⟩ : ∃ m'', m' = m'' + 1 := ⟨m' - 1, by omega⟩
      rw [M_stretch_7]
      refine RR_y rfl (RR_ret ?_)
      rw [strE_0 han]
      have hgid := grE_id han
      rw [sF_self rfl]
      refine ⟨kfτ.tr I1.kf, ⟨I1.kf.tx (kfτ.tx T0), p2, L4.fx (I1.1 5 (by decide)) (I1.2 5 (by decide) (by decide)) (I1.2 6 (by decide) (by decide)), by rw [I1.1 6 (by decide)]; exact L2, by rw [I1.1 7 (by decide)]; exact L3, by rw [I1.1 4 (by decide), L1.1 4 (by decide) (by decide)]; exact p4, p5, fun i hi => ?_, fun i hi => ?_, ⟨ln, hln, by rw [I1.1 15 (by decide), L1.1 15 (by decide) (by decide)]; exact p7⟩, by rw [I1.1 14 (by decide), L1.1 14 (by decide) (by decide)]; exact p8, by rw [I1.1 8 (by decide), L1.1 8 (by decide) (by decide)]; exact p9⟩, han⟩
      · have := I2 i hi
        rw [hgid] at this
        exact this
      · rw [I1.2 3 (by decide) (by decide)]; exact L5 i hi
    | true =>
      rw [show (false || anyG X (lbS (0, 0) E) (bsE E) (lay (0, 0) []) E) = true from han, if_pos rfl]
      unfold M_stretch_113
      refine RR_bnd ?_
      have hall := grE_all X (lbS (0, 0) E) (bsE E) E (0, 0) hSI
      have hmu2 : muE (grX X E) ≤ n := by
        have := mu_gr (X := X) (Λ := lbS (0, 0) E) (B := bsE E) (s := (0, 0)) hSI
        rw [show anyG X (lbS (0, 0) E) (bsE E) (0, 0) E = true from han, if_pos rfl] at this
        change muE (grX X E) + 1 ≤ muE E at this
        omega
      have eL := LbE_gr hall
      have eS := StE_gr hall
      have t8 : τ'.1 8 = nI k := by rw [I1.1 8 (by decide), L1.1 8 (by decide) (by decide)]; exact p9
      have hk4 := LBk_of L4
      have hgo := ih m' (grX X E) (k + 1) (sF τ' 8 (τ'.1 8 + 1)) hmu2 (by omega) (by omega) ⟨(kfτ.tr I1.kf).tr ⟨rfl, rfl, rfl, rfl, rfl⟩, WfE_gr p2 hall, ?_, ?_, ?_, ?_, ⟨ln, hln, ?_⟩, ?_, ?_⟩
      · rw [show strE X (n + 1) k E = strE X n (k + 1) (grX X E) by rw [strE, if_pos han]]
        exact hgo
      · rw [eL]
        refine ⟨?_, hk4.2.1, fun i hi => ?_⟩
        · show τ'.1 5 = _; rw [I1.1 5 (by decide)]; exact hk4.1
        · show _ ∧ _ ∧ τ'.2 5 i = _ ∧ (_ → τ'.2 6 i = _)
          rw [I1.2 5 (by decide) (by decide), I1.2 6 (by decide) (by decide)]
          exact hk4.2.2 i hi
      · show τ'.1 4 = _; rw [eS, I1.1 4 (by decide), L1.1 4 (by decide) (by decide)]; exact p4
      · rw [eS]; exact p5
      · rw [eS]; exact I2
      · show τ'.1 15 = _; rw [I1.1 15 (by decide), L1.1 15 (by decide) (by decide)]; exact p7
      · show τ'.1 14 = _; rw [I1.1 14 (by decide), L1.1 14 (by decide) (by decide)]; exact p8
      · rw [sF_at, t8, nI_1]
/-- the check's fault: its number and line -/
def ckE (X : List Int32) (E : List Ev) : Sz → List Ev → Nat
  | _, [] => 0
  | s, e :: r => if e.1 = 5 ∧ ckB (ηE X E s e) (aE E s e) e.2.2.2.2.2 ≠ 0 then ckB (ηE X E s e) (aE E s e) e.2.2.2.2.2 + 16 * e.2.2.1 else ckE X E (stepE s e) r
theorem ckI_le (η : Int32 → AT → Int32 × Bool) (a : Int32) (i : AI) : ckI η a i ≤ 15 := by
  unfold ckI
  split
  · omega
  · split
    · exact mdF_le _ _
    · split
      · unfold ckJ; exact ckF_le _ _ _
      · unfold ckS; exact ckF_le _ _ _
theorem ckB_le (η : Int32 → AT → Int32 × Bool) (a : Int32) : ∀ l : List AI, ckB η a l ≤ 15
  | [] => by show 0 ≤ 15; omega
  | i :: r => by
    rw [ckB]
    split
    · exact ckI_le _ _ _
    · exact ckB_le η a r
def FC (σ τ : MS) : Prop := (∀ j, volA j = false → j ≠ 15 → τ.1 j = σ.1 j) ∧ (∀ k, k ≠ 7 → τ.2 k = σ.2 k)
/-- what was typed stays -/
def KT (σ τ : MS) : Prop := τ.1 1 = σ.1 1 ∧ τ.2 0 = σ.2 0
theorem ck_end {F : Nat} {τ : MS} (h14 : τ.1 14 = nI F) (hF : F ≠ 0) (hF2 : F < 2 ^ 31) (m : Nat) (x : Int32) : RR (M_assemble_94 N (m + 1) x τ) (fun v σ' => v = nI F ∧ σ'.1 3 = 0 ∧ KT τ σ') := by
  rw [M_assemble_94]
  have hne : ¬ τ.1 14 = 0 := by rw [h14, show (0 : Int32) = nI 0 from rfl, nI_eq (by omega) (by omega)]; exact hF
  have h139 : RR (M_assemble_139 N τ) (fun v σ' => v = nI F ∧ σ'.1 3 = 0 ∧ KT τ σ') := by
    unfold M_assemble_139 M_assemble_152
    refine RR_n hne (RR_gd (by decide) (RR_bnd (RR_ret ⟨?_, rfl, rfl, rfl⟩)))
    rw [sF_ne _ _ (by decide)]
    exact h14
  show RR (if τ.1 4 ≤ x then _ else _) _
  exact RR_if (fun _ => h139) (fun _ => RR_n hne h139)
set_option maxHeartbeats 1000000 in
theorem ck_loop (hN : 4200 < N) {k : Nat} (hL : LdS X E k σ) : ∀ (E2 E1 : List Ev) (m : Nat) (τ : MS), E = E1 ++ E2 → FC σ τ → (∃ ln, ln < 10000 ∧ τ.1 15 = nI ln) → (StE E2).length + 1 < m → RR (M_assemble_94 N m (nI (StE E1).length) τ) (fun v σ' => v = nI (ckE X E (lay (0, 0) E1) E2) ∧ (ckE X E (lay (0, 0) E1) E2 ≠ 0 → σ'.1 3 = 0 ∧ KT σ σ') ∧ (ckE X E (lay (0, 0) E1) E2 = 0 → σ'.1 3 = 1 ∧ FC (sF σ 3 1) σ' ∧ ∃ ln, ln < 10000 ∧ σ'.1 15 = nI ln)) := by
  obtain ⟨T0, hW, hLb, h6, h7, h4, hSn, hS, hO, -, h14, h8⟩ := hL
  have hX := T0.small
  have hSI := WfE_SI hX hW
  intro E2
  induction E2 with
  | nil =>
    intro E1 m τ hE hI hln hm
    rw [List.append_nil] at hE
    subst hE
    obtain ⟨m', rfl⟩ : ∃ m', m = m' + 1 := ⟨m - 1, by omega⟩
    rw [M_assemble_94]
    have e4 : τ.1 4 = nI (StE E).length := by rw [hI.1 4 (by decide) (by decide)]; exact h4
    have e14 : τ.1 14 = 0 := by rw [hI.1 14 (by decide) (by decide)]; exact h14
    show RR (if τ.1 4 ≤ nI (StE E).length then _ else _) _
    refine RR_y (by rw [e4]; exact Int32.le_refl _) ?_
    unfold M_assemble_139 M_assemble_152
    refine RR_y e14 (RR_gd (by decide) (RR_bnd (RR_ret ⟨?_, fun z => absurd rfl z, fun _ => ⟨rfl, ⟨fun j h1 h2 => ?_, fun k hk => ?_⟩, hln⟩⟩)))
    · rw [sF_ne _ _ (by decide), e14]; rfl
    · by_cases h3 : j = 3
      · rw [h3, sF_at, sF_at]
      · rw [sF_ne _ _ h3, sF_ne _ _ h3]; exact hI.1 j h1 h2
    · exact hI.2 k hk
  | cons e r ih =>
    intro E1 m τ hE hI hln hm
    have hE' : E = (E1 ++ [e]) ++ r := by rw [hE, List.append_assoc]; rfl
    have elay : lay (0, 0) (E1 ++ [e]) = stepE (lay (0, 0) E1) e := by rw [lay_app]; rfl
    have hmemE : e ∈ E := by rw [hE]; simp
    by_cases h5 : e.1 = 5
    · have hw := hW E1 e r hE
      have hpos := hw.2.1
      have hsec := hw.2.2.1
      have hSI5 := (hSI e hmemE).1 h5
      have eSt : StE E = StE E1 ++ ([e] ++ StE r) := by rw [hE, StE_app, StE_cons, if_pos h5]
      have hSl : (StE E1).length < (StE E).length := by rw [eSt]; simp
      have hq : StQ τ (StE E1).length e := by
        have := hS (StE E1).length hSl
        rw [show (StE E).getD (StE E1).length ev0 = e by rw [eSt]; exact getD_mid _ _ _ _] at this
        unfold StQ at this ⊢
        rw [hI.2 2 (by decide), hI.2 4 (by decide)]
        exact this
      have eof : ofS (0, 0) E = ofS (0, 0) E1 ++ (offS (lay (0, 0) E1) e.2.2.2.1 :: ofS (stepE (lay (0, 0) E1) e) r) := by
        rw [hE, ofS_app]
        show _ ++ ((if e.1 = 5 then _ else _) ++ _) = _
        rw [if_pos h5]
        rfl
      have ho : τ.2 3 (StE E1).length = nI (offS (lay (0, 0) E1) e.2.2.2.1) := by
        rw [hI.2 3 (by decide), hO _ hSl, eof, ← ofS_len E1 (0, 0), getD_mid]
      have hsr : (StE (e :: r)).length = (StE r).length + 1 := by rw [StE_cons, if_pos h5]; simp
      have hst' : (StE (E1 ++ [e])).length = (StE E1).length + 1 := by rw [StE_snoc, if_pos h5]; simp
      obtain ⟨m', rfl⟩ : ∃ m', m = m' + 1 := ⟨m - 1, by omega⟩
      obtain ⟨m'', rfl⟩ : ∃ m'', m' = m'' + 1 := ⟨m' - 1, by omega⟩
      obtain ⟨l1, l2, l3⟩ := SIt_lev hSI5
      have e4 : τ.1 4 = nI (StE E).length := by rw [hI.1 4 (by decide) (by decide)]; exact h4
      have e14 : τ.1 14 = 0 := by rw [hI.1 14 (by decide) (by decide)]; exact h14
      have s1030 : inB (nI (StE E1).length) 1030 = true := inB_nI (by omega) (by omega)
      have Tτ : TX τ (tw X) X.length := ⟨by rw [hI.1 2 (by decide) (by decide)]; exact T0.size, fun k hk => by rw [hI.2 1 (by decide)]; exact T0.text k hk, hX⟩
      have hlne : e.2.2.1 < 10000 := by
        rw [hw.2.2.2.1]
        have := nlc_le X e.2.1
        omega
      rw [M_assemble_94]
      show RR (if τ.1 4 ≤ nI (StE E1).length then _ else _) _
      refine RR_n (by rw [e4, nI_leI (by omega) (by omega)]; omega) (RR_y e14 (RR_gd s1030 ?_))
      rw [nI_clamp (by omega), hq.1, pl_start (by omega) l1 hsec l2]
      refine RR_cr (M_lineOf_eq Tτ hN (by omega)) (RR_bnd ?_)
      rw [← hw.2.2.2.1]
      have C : AgC N X E e.2.2.1 (sF τ 15 (nI e.2.2.1)) := ⟨hN, Tτ.sFk 15 _ (by decide), hLb.fx (by rw [sF_ne _ _ (by decide)]; exact hI.1 5 (by decide) (by decide)) (hI.2 5 (by decide)) (hI.2 6 (by decide)), by rw [sF_ne _ _ (by decide), hI.1 6 (by decide) (by decide)]; exact h6, sF_at _ _ _, hlne, by rw [sF_ne _ _ (by decide)]; exact e14, hW⟩
      refine RR_then (M_again_eq C hE h5 (by omega) (show StQ (sF τ 15 (nI e.2.2.1)) (StE E1).length e from hq) ho (md := 2) (Or.inr (Or.inl rfl))) (fun _ τ4 h44 => ?_)
      rw [ckE, nI_1]
      rcases h44 with ⟨-, c2, c3, c4⟩ | ⟨c1, FA4, -, -⟩
      · rw [if_pos ⟨h5, c2⟩]
        have hle := ckB_le (ηE X E (lay (0, 0) E1) e) (aE E (lay (0, 0) E1) e) e.2.2.2.2.2
        generalize ckB (ηE X E (lay (0, 0) E1) e) (aE E (lay (0, 0) E1) e) e.2.2.2.2.2 = F at *
        refine RR_imp (ck_end c3 (by omega) (by omega) m'' _) (fun v σ' h => ⟨h.1, fun _ => ⟨h.2.1, ?_⟩, fun z => by omega⟩)
        refine ⟨h.2.2.1.trans (c4.1.trans ?_), h.2.2.2.trans (c4.2.2.2.1.trans ?_)⟩
        · rw [sF_ne _ _ (by decide)]; exact hI.1 1 (by decide) (by decide)
        · exact hI.2 0 (by decide)
      · have hc : ¬ (e.1 = 5 ∧ ckB (ηE X E (lay (0, 0) E1) e) (aE E (lay (0, 0) E1) e) e.2.2.2.2.2 ≠ 0) := fun z => c1 ⟨rfl, z.2⟩
        rw [if_neg hc]
        have := ih (E1 ++ [e]) (m'' + 1) τ4 hE' ⟨fun j h1 h2 => ?_, fun k hk => ?_⟩ ⟨e.2.2.1, hlne, by rw [FA4.1 15 (by decide)]; exact sF_at _ _ _⟩ (by omega)
        · rw [hst', elay] at this
          exact this
        · rw [FA4.1 j h1, sF_ne _ _ h2]; exact hI.1 j h1 h2
        · rw [FA4.2 k hk]; exact hI.2 k hk
    · have hst' : (StE (E1 ++ [e])).length = (StE E1).length := by rw [StE_snoc, if_neg h5, List.append_nil]
      have hsr : (StE (e :: r)).length = (StE r).length := by rw [StE_cons, if_neg h5]; rfl
      have := ih (E1 ++ [e]) m τ hE' hI hln (by omega)
      rw [hst', elay] at this
      rw [ckE, if_neg (fun z => h5 z.1)]
      exact this
/-- how many bytes there are -/
def allN (E : List Ev) : Nat := if (lay (0, 0) E).2 = 0 then (lay (0, 0) E).1 else bsE E + (lay (0, 0) E).2
theorem M_all_eq (hX : X.length ≤ 4096) (hW : WfE X E) (h3 : σ.1 3 = 1) (h6 : σ.1 6 = nI (lay (0, 0) E).1) (h7 : σ.1 7 = nI (lay (0, 0) E).2) : M_all σ = some (nI (allN E)) := by
  have hla := lay_all hX hW
  unfold M_all M_all_34 allN
  rw [if_neg (by rw [h3]; decide), h7]
  by_cases h0 : (lay (0, 0) E).2 = 0
  · rw [if_pos (by rw [h0]; decide), if_pos h0, h6]
  · rw [if_neg (by rw [show (0 : Int32) = nI 0 from rfl, nI_leI (by omega) (by omega)]; omega), if_neg h0, M_base_eq h6 (by omega)]
    simp only [cr, Option.bind_some]
    rw [nI_add]
end
