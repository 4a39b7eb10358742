/-! ===== the directives, one by one ===== -/
section
variable {N : Nat} {X : List Int32} {σ0 : MS} {Λ : List Lb} {ln cur start : Nat}
theorem GR_sF {r : List AT} {B : List Int32} {σ : MS} (h : GR X σ0 r B σ) {j : Nat} (v : Int32) (hj : volZ j = false) (h17 : j ≠ 17) (h21 : j ≠ 21) : GR X (sF σ0 j v) r B (sF σ j v) := by
  obtain ⟨q, hl, hF, hq, h9, h20, h22⟩ := h
  obtain ⟨j1, -, -, -, -, j20, j22, -⟩ := vol_z hj
  refine ⟨q, hl, ⟨fun i hi => ?_, hF.2⟩, hq, ?_, ?_, ?_⟩
  · by_cases e : i = j
    · subst e; rw [sF_at, sF_at]
    · rw [sF_ne _ _ e, sF_ne _ _ e]; exact hF.1 i hi
  · rw [sF_ne _ _ (Ne.symm j1)]; exact h9
  · rw [sF_ne _ _ (Ne.symm j20)]; exact h20
  · rw [sF_ne _ _ (Ne.symm j22), h22]
    unfold gw
    rw [sF_ne _ _ (Ne.symm h17), sF_ne _ _ (Ne.symm h21)]
theorem GR_sA {r : List AT} {B : List Int32} {σ : MS} (h : GR X σ0 r B σ) {k : Nat} (i : Nat) (v : Int32) (hk : k ≠ 7) : GR X (sA σ0 k i v) r B (sA σ k i v) := by
  obtain ⟨q, hl, hF, hq, h9, h20, h22⟩ := h
  refine ⟨q, hl, ⟨hF.1, fun m hm => ?_⟩, hq, h9, h20, h22⟩
  by_cases e : m = k
  · subst e; rw [sA_eq, sA_eq, hF.2 m hm]
  · rw [sA_ne e, sA_ne e]; exact hF.2 m hm
theorem GR_dfn {r : List AT} {B : List Int32} {σ : MS} (h : GR X σ0 r B σ) (p kd v : Int32) : GR X (dfn σ0 p kd v) r B (dfn σ p kd v) := by
  have e5 : σ.1 5 = σ0.1 5 := h.f.1 5 (by decide)
  unfold dfn
  rw [e5]
  exact GR_sF (GR_sA (GR_sA h _ _ (by decide)) _ _ (by decide)) _ (by decide) (by decide) (by decide)
theorem M_define_eq {σ : MS} {n : Nat} (h : σ.1 5 = nI n) (hn : n < 2060) (p q kd v : Int32) : M_define p q kd v σ = some (0, dfn σ p kd v) := by
  unfold M_define dfn
  rw [gd_t (by rw [h]; exact inB_nI hn (by omega))]
  simp only [bnd]
  rw [gd_t (by rw [show (sA σ 5 (σ.1 5).toNatClampNeg (p ||| (kd <<< ((13 : Int32) &&& 31)))).1 5 = nI n from h]; exact inB_nI hn (by omega))]
  rfl
def tkM (X : List Int32) (Λ : List Lb) (σ0 : MS) (nm : List Int32) : Bool := if σ0.1 17 = 0 then tkA X Λ nm else false
def OutE (X : List Int32) (σ0 : MS) (ln : Nat) (B : List Int32) (t : Nat × AT × Int32 × List AT) (σ : MS) : Prop :=
  if t.1 ≠ 0 then (σ0.1 17 ≠ 0 ∨ FS X σ0 (fl ln t.1) σ) else GR X (if σ0.1 17 = 0 then dfn σ0 (nI t.2.1.p) 2 t.2.2.1 else σ0) t.2.2.2 B σ
theorem OutE_f {B : List Int32} {t : Nat × AT × Int32 × List AT} {σ : MS} {k : Nat} (h : t.1 = k) (hk : k ≠ 0) (hF : FS X σ0 (fl ln k) σ) : OutE X σ0 ln B t σ := by
  unfold OutE
  rw [h, if_pos hk]
  exact Or.inr hF
theorem FS_const_49 {F : Int32} {σ : MS} (hF : F ≠ 0) (h : FS X σ0 F σ) (x1 x2 : Int32) : RR (M_constant_49 N x1 x2 σ) (fun _ σ' => FS X σ0 F σ') := by
  unfold M_constant_49
  exact F_comma hF h
theorem D_equ (C : Cx N X σ0 Λ ln cur start) {ts : List AT} {B : List Int32} {σ : MS} (h : GR X σ0 ts B σ) : RR (M_constant N σ) (fun _ σ' => OutE X σ0 ln B (eqT (η0 X Λ σ0 start) (loR X Λ) (tkM X Λ σ0) ts) σ') := by
  have hN := C.1
  have hs := C.2.1.small
  unfold M_constant
  refine RR_then (G_needs C h (c := 2) (by simp) rfl) (fun v σ1 h1 => ?_)
  rcases h1 with ⟨a, r, e1, e2, e3, e4, e5, e6⟩ | ⟨e1, e2, e3⟩
  · refine RR_n (by rw [e2]; decide) ?_
    have ek := (tk1_some e1).2
    obtain ⟨g1, g2, g3, g4, g5⟩ := e6.2.2.2 ek
    have T1 : TX σ1 (tw X) X.length := e3.f.fr.tx C.2.1
    have hL : LBs X σ1 Λ := by
      obtain ⟨l1, l2, l3⟩ := C.2.2.1
      exact ⟨by rw [e3.f.1 5 (by decide)]; exact l1, l2, fun i hi => by rw [e3.f.2 5 (by decide), e3.f.2 6 (by decide)]; exact l3 i hi⟩
    have hpl : ∀ c ∈ cut X a.p a.e, isPl c = true := cut_pl X (by have := e6.2.1; have := e6.2.2.1; omega) (by omega)
    have h17 : σ1.1 17 = σ0.1 17 := e3.f.1 17 (by decide)
    have k49 : tkM X Λ σ0 a.nm = false → RR (M_constant_49 N (nI a.p) (nI a.e) σ1) (fun _ σ' => OutE X σ0 ln B (eqT (η0 X Λ σ0 start) (loR X Λ) (tkM X Λ σ0) ts) σ') := by
      intro hk
      have el : eqT (η0 X Λ σ0 start) (loR X Λ) (tkM X Λ σ0) ts = match tk1 44 r with
          | none => (1, nilA, 0, [])
          | some y => match cmpT y.2 with
            | none => (1, nilA, 0, [])
            | some z => if fxF (η0 X Λ σ0 start) (loR X Λ) (-2147483648) 2147483647 z.1 ≠ 0 then (fxF (η0 X Λ σ0 start) (loR X Λ) (-2147483648) 2147483647 z.1, nilA, 0, []) else (0, a, (evV (η0 X Λ σ0 start) z.1).1, z.2) := by
        unfold eqT
        rw [e1]
        simp only []
        rw [if_neg (by rw [hk]; decide)]
        cases tk1 44 r with
        | none => rfl
        | some y => cases cmpT y.2 <;> rfl
      unfold M_constant_49 M_constant_90
      refine RR_then (G_comma C e3) (fun v2 σ2 h2 => ?_)
      rcases h2 with ⟨b, r2, f1, f2, f3⟩ | ⟨f1, f2, f3⟩
      · rw [f1] at el
        simp only [] at el
        refine RR_n (by rw [f2]; decide) (RR_then (G_fixed C f3 _ _) (fun v3 σ3 h3 => ?_))
        have fsE : ∀ F, F ≠ 0 → FS X σ0 F σ3 → RR (if σ3.1 17 = 0 then (if σ3.1 14 = 0 then cl (M_define (nI a.p) (nI a.e) 2 v3 σ3) (fun r5 σ6 => some ((0 : Int32), σ6)) else some ((0 : Int32), σ3)) else some ((0 : Int32), σ3)) (fun _ σ' => FS X σ0 F σ') := fun F hF hS => RR_if (fun _ => RR_n (by rw [hS.2.2]; exact hF) (RR_ret hS)) (fun _ => RR_ret hS)
        rcases h3 with ⟨q1, q2⟩ | ⟨R, rest, q1, q2, q3, q4⟩
        · rw [q1] at el
          simp only [] at el
          exact RR_imp (fsE _ (fl_ne0 C (by omega)) q2) (fun _ σ' h' => OutE_f (k := 1) (by rw [el]) (by decide) h')
        · rw [q1] at el
          simp only [] at el
          by_cases hz : fxF (η0 X Λ σ0 start) (loR X Λ) (-2147483648) 2147483647 R = 0
          · obtain ⟨z1, z2⟩ := q2 hz
            rw [if_neg (fun y => y hz)] at el
            rw [el]
            have h173 : σ3.1 17 = σ0.1 17 := z2.f.1 17 (by decide)
            rw [h173]
            refine RR_if (fun c => RR_y (by rw [z2.f.1 14 (by decide)]; exact C.2.2.2.2.2.2.2.2.2) ?_) (fun c => RR_ret ?_)
            · rw [M_define_eq (n := Λ.length) (by rw [z2.f.1 5 (by decide)]; exact C.2.2.1.1) (by have := C.2.2.1.2.1; omega)]
              refine RR_ret ?_
              unfold OutE
              rw [if_neg (fun y => y rfl), if_pos c, z1]
              exact GR_dfn z2 _ _ _
            · unfold OutE
              rw [if_neg (fun y => y rfl), if_neg c]
              exact z2
          · rw [if_pos hz] at el
            by_cases hm : σ0.1 17 = 0
            · exact RR_imp (fsE _ (fl_ne0 C ⟨by omega, fxF_le _ _ _ _ _⟩) (q3 hz hm)) (fun _ σ' h' => OutE_f (k := fxF (η0 X Λ σ0 start) (loR X Λ) (-2147483648) 2147483647 R) (by rw [el]) hz h')
            · have any : ∀ σ', OutE X σ0 ln B (eqT (η0 X Λ σ0 start) (loR X Λ) (tkM X Λ σ0) ts) σ' := by
                intro σ'
                unfold OutE
                rw [el, if_pos hz]
                exact Or.inl hm
              rcases q4 with g | g | g | ⟨F, g5, g6⟩
              · exact absurd g hm
              · exact absurd g hz
              · exact RR_n (by rw [g.f.1 17 (by decide)]; exact hm) (RR_ret (any _))
              · exact RR_imp (fsE _ g5 g6) (fun _ σ' _ => any σ')
      · rw [f1] at el
        simp only [] at el
        exact RR_y f2 (RR_ret (OutE_f (k := 1) (by rw [el]) (by decide) f3))
    have k44 : tkM X Λ σ0 a.nm = true → RR (M_constant_44 N (nI a.p) (nI a.e) σ1) (fun _ σ' => OutE X σ0 ln B (eqT (η0 X Λ σ0 start) (loR X Λ) (tkM X Λ σ0) ts) σ') := by
      intro hk
      have el : eqT (η0 X Λ σ0 start) (loR X Λ) (tkM X Λ σ0) ts = (4, nilA, 0, []) := by
        unfold eqT
        rw [e1]
        simp only []
        rw [if_pos hk]
      unfold M_constant_44
      refine RR_then (G_blame C e3.f e3.at9 4 (k := 4) rfl) (fun _ σ2 h2 => RR_imp (FS_const_49 (fl_ne0 C (by omega)) h2.1 _ _) (fun _ σ' h' => OutE_f (k := 4) (by rw [el]) (by decide) h'))
    rw [h17, e4, e5, M_register_eq T1 (by omega) (by have := e6.2.1; omega) e6.2.2.1, M_find_eq T1 hN hL (by have := e6.2.1; omega) e6.2.2.1 hpl, ← g1]
    simp only [cr, Option.bind_some]
    refine RR_if (fun c => ?_) (fun c => k49 (by unfold tkM; rw [if_neg c]))
    have etk : tkM X Λ σ0 a.nm = tkA X Λ a.nm := by unfold tkM; rw [if_pos c]
    have oin := oI_neg (fnd X a.nm Λ 0) (fun k hk => by have := fnd_lt X a.nm Λ 0 k hk; have := C.2.2.1.2.1; omega)
    refine RR_if (fun d => k44 ?_) (fun d => RR_if (fun d2 => k49 ?_) (fun d2 => k44 ?_))
    · rw [etk]; unfold tkA; rw [decide_eq_true d]; rfl
    · rw [etk]; unfold tkA; rw [decide_eq_false d, oin.1.mp d2]; rfl
    · rw [etk]; unfold tkA; rw [decide_eq_false d]
      cases hf : fnd X a.nm Λ 0 with
      | none => exact absurd (oin.1.mpr hf) d2
      | some k => rfl
  · refine RR_y e2 (RR_ret (OutE_f (k := 1) ?_ (by decide) e3))
    unfold eqT
    rw [e1]
theorem gw_zeros (σ0 : MS) (k : Nat) : gw σ0 (List.replicate k 0) = 0 := by
  unfold gw
  split
  · rw [List.reverse_replicate]
    induction k with
    | zero => rfl
    | succ k ih =>
      rw [List.replicate_succ]
      show (if nI (List.replicate k (0 : Int32)).length = σ0.1 21 then (0 : Int32) else gwi (σ0.1 21) (List.replicate k 0)) = 0
      split
      · rfl
      · exact ih
  · rfl
theorem fx_rng {η : Int32 → AT → Int32 × Bool} {lo : AT → Bool} {hi : Nat} {R : List XSt} (hh : hi < 2 ^ 31) (h : fxF η lo 0 (nI hi) R = 0) : ∃ k, k ≤ hi ∧ (evV η R).1 = nI k := by
  unfold fxF at h
  split at h
  · exact absurd h (by decide)
  · split at h
    · exact absurd h (by decide)
    · split at h
      · exact absurd h (by decide)
      · rename_i c
        simp only [not_or] at c
        obtain ⟨k, -, k2, k3⟩ := i_sub (a := 0) (b := hi) (Int32.not_lt.mp c.1) (Int32.not_lt.mp c.2) hh (by omega)
        exact ⟨k, k2, k3⟩
def OutP (X : List Int32) (σ0 : MS) (ln : Nat) (t : Nat × Int32 × List AT) (σ : MS) : Prop :=
  if t.1 ≠ 0 then (σ0.1 17 ≠ 0 ∨ FS X σ0 (fl ln t.1) σ) else ∃ k, k ≤ 32768 ∧ t.2.1 = nI k ∧ GR X σ0 t.2.2 (List.replicate k 0) σ
theorem D_space (C : Cx N X σ0 Λ ln cur start) {w : Int32} {ts : List AT} {σ : MS} (h : GR X σ0 ts [] σ) : RR (M_directive N 48 w σ) (fun _ σ' => OutP X σ0 ln (f1T (η0 X Λ σ0 start) (loR X Λ) 0 32768 ts) σ') := by
  obtain ⟨q0, hl0, hg0⟩ := id h
  have h20 : σ.1 20 = 0 := hg0.2.2.2.1
  have outf : ∀ (k : Nat) (σ' : MS), k ≠ 0 → (f1T (η0 X Λ σ0 start) (loR X Λ) 0 32768 ts).1 = k → FS X σ0 (fl ln k) σ' → OutP X σ0 ln (f1T (η0 X Λ σ0 start) (loR X Λ) 0 32768 ts) σ' := by
    intro k σ' hk he hF
    unfold OutP
    rw [he, if_pos hk]
    exact Or.inr hF
  unfold M_directive M_directive_185
  refine RR_y (by decide) (RR_n (by decide) (RR_y rfl (RR_then (G_fixed C h _ _) (fun v σ1 h1 => RR_bnd (RR_ret ?_)))))
  rw [h20]
  rcases h1 with ⟨e1, e2⟩ | ⟨R, rest, e1, e2, e3, e4⟩
  · exact outf 1 _ (by decide) (by unfold f1T; rw [e1]) (e2.sFv _ (by decide) (by decide) (by decide))
  · have el : f1T (η0 X Λ σ0 start) (loR X Λ) 0 32768 ts = if fxF (η0 X Λ σ0 start) (loR X Λ) 0 32768 R ≠ 0 then (fxF (η0 X Λ σ0 start) (loR X Λ) 0 32768 R, 0, []) else (0, (evV (η0 X Λ σ0 start) R).1, rest) := by
      unfold f1T; rw [e1]
    by_cases hz : fxF (η0 X Λ σ0 start) (loR X Λ) 0 32768 R = 0
    · obtain ⟨z1, z2⟩ := e2 hz
      rw [if_neg (fun y => y hz)] at el
      rw [el]
      unfold OutP
      rw [if_neg (fun y => y rfl)]
      obtain ⟨k, k1, k2⟩ := fx_rng (hi := 32768) (by decide) hz
      refine ⟨k, k1, k2, ?_⟩
      obtain ⟨q, hl, hF, hq, h9, h20', h22⟩ := z2
      refine ⟨q, hl, ⟨fun j hj => ?_, hF.2⟩, hq, ?_, ?_, ?_⟩
      · obtain ⟨-, -, -, -, -, j20, -⟩ := vol_z hj
        rw [sF_ne _ _ j20]; exact hF.1 j hj
      · rw [sF_ne _ _ (by decide)]; exact h9
      · rw [sF_at, z1, k2, List.length_replicate]
        show nI 0 + nI k = nI k
        rw [nI_add, Nat.zero_add]
      · rw [sF_ne _ _ (by decide), h22, gw_zeros]
        exact gw_zeros σ0 0
    · rw [if_pos hz] at el
      by_cases hm : σ0.1 17 = 0
      · exact outf _ _ hz (by rw [el]) ((e3 hz hm).sFv _ (by decide) (by decide) (by decide))
      · unfold OutP
        rw [el, if_pos hz]
        exact Or.inl hm
def OutG (X : List Int32) (σ0 : MS) (ln cur : Nat) (B : List Int32) (t : Nat × Int32 × List AT) (σ : MS) : Prop :=
  if t.1 ≠ 0 then (σ0.1 17 ≠ 0 ∨ FS X σ0 (fl ln t.1) σ) else GR X (sA σ0 4 cur (-1 - t.2.1)) t.2.2 B σ
theorem D_align (C : Cx N X σ0 Λ ln cur start) {w : Int32} {ts : List AT} {B : List Int32} {σ : MS} (h : GR X σ0 ts B σ) : RR (M_directive N 49 w σ) (fun _ σ' => OutG X σ0 ln cur B (f1T (η0 X Λ σ0 start) (loR X Λ) 0 10 ts) σ') := by
  have hcur := C.2.2.2.2.2.2.1
  have outf : ∀ (k : Nat) (σ' : MS), k ≠ 0 → (f1T (η0 X Λ σ0 start) (loR X Λ) 0 10 ts).1 = k → FS X σ0 (fl ln k) σ' → OutG X σ0 ln cur B (f1T (η0 X Λ σ0 start) (loR X Λ) 0 10 ts) σ' := by
    intro k σ' hk he hF
    unfold OutG
    rw [he, if_pos hk]
    exact Or.inr hF
  have fsA : ∀ (F : Int32) (τ : MS) (v : Int32), FS X σ0 F τ → RR (gd (inB (τ.1 18) 1030) (bnd (sA τ 4 (τ.1 18).toNatClampNeg (-1 - v)) (fun σ4 => M_directive_185 N σ4))) (fun _ σ' => FS X σ0 F σ') := by
    intro F τ v hS
    unfold M_directive_185
    refine RR_gd (by rw [hS.1.1 18 (by decide), C.2.2.2.2.2.1]; exact inB_nI hcur (by omega)) (RR_bnd (RR_ret ⟨⟨hS.1.1, fun k k2 k4 k7 => by rw [sA_ne k4]; exact hS.1.2 k k2 k4 k7⟩, hS.2.1, hS.2.2⟩))
  have grA : ∀ (τ : MS) (v : Int32) (r : List AT), GR X σ0 r B τ → RR (gd (inB (τ.1 18) 1030) (bnd (sA τ 4 (τ.1 18).toNatClampNeg (-1 - v)) (fun σ4 => M_directive_185 N σ4))) (fun _ σ' => GR X (sA σ0 4 cur (-1 - v)) r B σ') := by
    intro τ v r hG
    have e18 : τ.1 18 = nI cur := (hG.f.1 18 (by decide)).trans C.2.2.2.2.2.1
    unfold M_directive_185
    rw [e18, nI_clamp (by omega)]
    exact RR_gd (inB_nI hcur (by omega)) (RR_bnd (RR_ret (GR_sA hG _ _ (by decide))))
  unfold M_directive
  refine RR_y (by decide) (RR_n (by decide) (RR_n (by decide) (RR_y rfl (RR_then (G_fixed C h _ _) (fun v σ1 h1 => ?_)))))
  rcases h1 with ⟨e1, e2⟩ | ⟨R, rest, e1, e2, e3, e4⟩
  · exact RR_imp (fsA _ σ1 v e2) (fun _ σ' h' => outf 1 _ (by decide) (by unfold f1T; rw [e1]) h')
  · have el : f1T (η0 X Λ σ0 start) (loR X Λ) 0 10 ts = if fxF (η0 X Λ σ0 start) (loR X Λ) 0 10 R ≠ 0 then (fxF (η0 X Λ σ0 start) (loR X Λ) 0 10 R, 0, []) else (0, (evV (η0 X Λ σ0 start) R).1, rest) := by
      unfold f1T; rw [e1]
    by_cases hz : fxF (η0 X Λ σ0 start) (loR X Λ) 0 10 R = 0
    · obtain ⟨z1, z2⟩ := e2 hz
      rw [if_neg (fun y => y hz)] at el
      rw [el, z1]
      refine RR_imp (grA σ1 _ rest z2) (fun _ σ' h' => ?_)
      unfold OutG
      rw [if_neg (fun y => y rfl)]
      exact h'
    · rw [if_pos hz] at el
      by_cases hm : σ0.1 17 = 0
      · exact RR_imp (fsA _ σ1 v (e3 hz hm)) (fun _ σ' h' => outf _ _ hz (by rw [el]) h')
      · have any : ∀ σ', OutG X σ0 ln cur B (f1T (η0 X Λ σ0 start) (loR X Λ) 0 10 ts) σ' := by
          intro σ'
          unfold OutG
          rw [el, if_pos hz]
          exact Or.inl hm
        rcases e4 with g | g | g | ⟨F, g5, g6⟩
        · exact absurd g hm
        · exact absurd g hz
        · exact RR_imp (grA σ1 v rest g) (fun _ σ' _ => any σ')
        · exact RR_imp (fsA _ σ1 v g6) (fun _ σ' _ => any σ')
theorem D_sec {s w : Int32} (hs : ¬ 42 ≤ s) {ts : List AT} {B : List Int32} {σ : MS} (h : GR X σ0 ts B σ) : RR (M_directive N s w σ) (fun _ σ' => GR X (sF σ0 16 (s - 40)) ts B σ') := by
  unfold M_directive M_directive_185
  exact RR_n hs (RR_bnd (RR_ret (GR_sF h _ (by decide) (by decide) (by decide))))
end
