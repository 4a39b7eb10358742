/-! ===== the names that stay: all of them ===== -/
def opsL : Nat → Nat → List En
  | _, 0 => []
  | k, n + 1 => opE k ++ opsL (k + 1) n
def AL1 : List En := opsL 0 128 ++ numL 0 32
def AL2 : List En := AL1 ++ rowL (strB 4) [] 0
def AL3 : List En := AL2 ++ rowL (strB 5) [] 18
def ALLE : List En := AL3 ++ rowL (strB 6) [] 8
def ALLN : List (List Int32) := ((ALLE.map (fun e => e.1) ++ [strB 7]) ++ [strB 8]) ++ [strB 9]
set_option maxRecDepth 100000 in
theorem al_size : (ALLE.map (fun e => e.1)).flatten.length = 1112 ∧ ALLE.length = 226 := by decide +kernel
set_option maxRecDepth 100000 in
theorem al_nd : ALLN.Nodup := by decide +kernel
theorem row_p : rowP (strB 4) [] = [] ∧ rowP (strB 5) [] = [] ∧ rowP (strB 6) [] = [] := by decide +kernel
theorem al_ok : Ok ALLE := by
  have h := al_nd
  unfold ALLN at h
  refine ⟨⟨by have := al_size.1; omega, by have := al_size.2; omega⟩, ?_⟩
  exact (List.nodup_append.mp (List.nodup_append.mp (List.nodup_append.mp h).1).1).1
theorem NamL_cF {σ : CS} {ns : List (List Int32)} {p so va op re od : List Int32} (h : NamL σ ns p so va op re od) {j : Nat} (h1 : 1 ≤ j) (h2 : j < 100) (v : Int32) : NamL (cF σ j v) ns p so va op re od := by
  obtain ⟨r0, r1, r2, r3, r4, r5, r6, r7, r8, hh, hc, hd, l1, l2, nd⟩ := h
  have e : ∀ r, rg (cF σ j v) r = rg σ r := fun r => rg_cF (by omega)
  exact ⟨by rw [e]; exact r0, by rw [e]; exact r1, by rw [e]; exact r2, by rw [e]; exact r3, by rw [e]; exact r4, by rw [e]; exact r5, by rw [e]; exact r6, by rw [e]; exact r7, by rw [e]; exact r8, (pk_un (by omega)).trans hh, hc, hd, l1, l2, nd⟩
theorem cF_ne (σ : CS) (j i : Nat) (a : Int32) (h : i ≠ j) : (cF σ j a).1 i = σ.1 i := if_neg h
section
variable {N : Nat} {x y : Nat}
abbrev opA : List Int32 := ALLE.map (fun e => e.2.1)
abbrev reA : List Int32 := ALLE.map (fun e => e.2.2.1)
abbrev odA : List Int32 := ALLE.map (fun e => e.2.2.2)
def InQ (x y : Nat) (_ : Int32) (u : CS) (c : Nat × Nat) : Prop := c = np u x y ∧ CNm ALLN opA reA odA u
theorem init_end (hN : 100000 < N) (m : Nat) {σ : CS} (h : NmA σ (opsL 0 128)) : RC (np σ x y) (C_Nam_init_127 N (m + 1) (nI 128) σ) (InQ x y) := by
  have k3 : Ok AL3 := al_ok.pre
  have k2 : Ok AL2 := k3.pre
  have k1 : Ok AL1 := k2.pre
  rw [C_Nam_init_127]
  refine RC_y (Int32.le_refl _) ?_
  unfold C_Nam_enterNumbered C_Nam_enterRow
  refine RC_then (num_E hN 32 0 N _ σ rfl (by omega) h k1) (fun r u c hu => ?_)
  obtain ⟨rfl, u2, u3⟩ := hu
  have l4 : (strB 4).length = 56 := by decide +kernel
  have l5 : (strB 5).length = 44 := by decide +kernel
  have l6 : (strB 6).length = 3 := by decide +kernel
  refine RC_then (row_E hN (k1 := 4) (by omega) 56 0 N [] 0 _ u l4.symm (by omega) u2 (Nat.zero_le _) k2) (fun r w c hw => ?_)
  obtain ⟨rfl, w2, w3⟩ := hw
  rw [List.drop_zero, row_p.1] at w2
  refine RC_then (row_E hN (k1 := 5) (by omega) 44 0 N [] 18 _ w l5.symm (by omega) w2 (Nat.zero_le _) k3) (fun r t c ht => ?_)
  obtain ⟨rfl, t2, t3⟩ := ht
  rw [List.drop_zero, row_p.2.1] at t2
  refine RC_then (row_E hN (k1 := 6) (by omega) 3 0 N [] 8 _ t l6.symm (by omega) t2 (Nat.zero_le _) al_ok) (fun r s c hs => ?_)
  obtain ⟨rfl, s2, s3⟩ := hs
  rw [List.drop_zero, row_p.2.2] at s2
  have s2' : NamL s (ALLE.map (fun e => e.1)) [] (List.replicate ALLE.length 0) (List.replicate ALLE.length 0) opA reA odA := s2
  have hnd := al_nd
  unfold ALLN at hnd
  have nd3 := List.nodup_append.mp hnd
  have nd2 := List.nodup_append.mp nd3.1
  have nd1 := List.nodup_append.mp nd2.1
  have z1 := al_size.1
  have z2 := al_size.2
  have z3 : (ALLE.map (fun e => e.1)).length = 226 := by rw [List.length_map]; exact z2
  have b7 := (str_len 7 (by omega)).2
  have b8 := (str_len 8 (by omega)).2
  have g1 : ((ALLE.map (fun e => e.1)) ++ [strB 7]).flatten.length = 1112 + (strB 7).length := by rw [List.flatten_append, List.length_append, z1, List.flatten_singleton]
  have g1' : ((ALLE.map (fun e => e.1)) ++ [strB 7]).length = 227 := by rw [List.length_append, z3]; rfl
  have g2 : (((ALLE.map (fun e => e.1)) ++ [strB 7]) ++ [strB 8]).flatten.length = 1112 + (strB 7).length + (strB 8).length := by rw [List.flatten_append, List.length_append, g1, List.flatten_singleton]
  have g2' : (((ALLE.map (fun e => e.1)) ++ [strB 7]) ++ [strB 8]).length = 228 := by rw [List.length_append, g1']; rfl
  refine RC_then (ent_E hN s2' ⟨by omega, by omega⟩ (k1 := 7) (by omega) (fun z => nd1.2.2 _ z _ List.mem_cons_self rfl)) (fun r a c ha => ?_)
  obtain ⟨rfl, rfl, a2, a3⟩ := ha
  refine RC_bnd (RC_then (ent_E hN (σ := cF a 1 _) (NamL_cF a2 (by omega) (by omega) _) ⟨by omega, by omega⟩ (k1 := 8) (by omega) (fun z => nd2.2.2 _ z _ List.mem_cons_self rfl)) (fun r b c hb => ?_))
  obtain ⟨rfl, rfl, b2, b3⟩ := hb
  refine RC_bnd (RC_then (ent_E hN (σ := cF b 2 _) (NamL_cF b2 (by omega) (by omega) _) ⟨by omega, by omega⟩ (k1 := 9) (by omega) (fun z => nd3.2.2 _ z _ List.mem_cons_self rfl)) (fun r d c hd => ?_))
  obtain ⟨rfl, rfl, d2, d3⟩ := hd
  refine RC_bnd (RC_bnd (RC_ret ⟨rfl, ?_, [], List.replicate ALLE.length 0 ++ [0] ++ [0] ++ [0], List.replicate ALLE.length 0 ++ [0] ++ [0] ++ [0], ?_⟩))
  · have hL : ALLN.length = 229 := by unfold ALLN; rw [List.length_append, g2']; rfl
    have q1 : d.1 1 = nI 226 := by
      rw [d3 1 (by omega) (by omega), cF_ne _ 2 1 _ (by decide), b3 1 (by omega) (by omega), cF_at, z3]
    have q2 : d.1 2 = nI 227 := by
      rw [d3 2 (by omega) (by omega), cF_at, g1']
    have q4 : d.1 100 = nI ALLN.length := by
      obtain ⟨r0, -, -, -, -, -, -, -, -, -, -, -, l1, -, -⟩ := d2
      have h100 := r0.cnt
      rw [l1] at h100
      exact h100
    refine ⟨⟨226, by omega, ?_, ?_⟩, ⟨227, by omega, ?_, ?_⟩, ⟨228, by omega, ?_, ?_⟩, ?_⟩
    · decide +kernel
    · rw [cF_ne _ 4 1 _ (by decide), cF_ne _ 3 1 _ (by decide)]; exact q1
    · decide +kernel
    · rw [cF_ne _ 4 2 _ (by decide), cF_ne _ 3 2 _ (by decide)]; exact q2
    · decide +kernel
    · rw [cF_ne _ 4 3 _ (by decide), cF_at, g2']
    · rw [cF_at, cF_ne _ 3 100 _ (by decide)]; exact q4
  · rw [List.append_nil]
    exact NamL_cF (NamL_cF d2 (by omega) (by omega) _) (by omega) (by omega) _
theorem init_ops (hN : 100000 < N) : ∀ (n k m : Nat) (L : List En) (σ : CS), k + n = 128 → n < m → L ++ opsL k n = opsL 0 128 → NmA σ L → RC (np σ x y) (C_Nam_init_127 N m (nI k) σ) (InQ x y) := by
  intro n
  induction n with
  | zero =>
    intro k m L σ hk hm hL h
    obtain ⟨m', rfl⟩ : ∃ m', m = m' + 1 := ⟨m - 1, by omega⟩
    have hk' : k = 128 := by omega
    subst hk'
    unfold opsL at hL
    rw [List.append_nil] at hL
    subst hL
    exact init_end hN m' h
  | succ n ih =>
    intro k m L σ hk hm hL h
    obtain ⟨m', rfl⟩ : ∃ m', m = m' + 1 := ⟨m - 1, by omega⟩
    have e : (L ++ opE k) ++ opsL (k + 1) n = opsL 0 128 := by rw [List.append_assoc]; exact hL
    have hok : Ok (L ++ opE k) := by
      have h0 : Ok (opsL 0 128) := al_ok.pre.pre.pre.pre
      rw [← e] at h0
      exact h0.pre
    rw [C_Nam_init_127]
    refine RC_n (fun z => absurd ((nI_leI (a := 128) (by omega) (by omega)).mp z) (by omega)) ?_
    have hb : inB (nI k) ex_nO = true := by
      unfold inB
      rw [nI_clamp (by omega), decide_eq_true (show k < ex_nO by show k < 128; omega), decide_eq_false (show ¬ nI k < 0 from fun z => absurd ((nI_ltI (a := k) (b := 0) (by omega) (by omega)).mp z) (by omega))]
      rfl
    refine RC_gd hb ?_
    rw [nI_clamp (by omega)]
    refine RC_then (op_E hN h (by omega) hok.1 hok.2) (fun r u c hu => ?_)
    obtain ⟨rfl, u2, -⟩ := hu
    rw [show nI k + 1 = nI (k + 1) from nI_add k 1]
    exact ih (k + 1) m' _ u (by omega) (by omega) e u2
theorem NmA_0 {u : CS} (h : RowL u [0]) : NmA (rs N0s 7 u) [] := by
  have hr : ∀ r, r ≠ 7 → r ≠ 20 → RowL (rg (rs N0s 7 u) r) [] := by
    intro r hr h20
    rw [rg_rs hr]
    exact ⟨rfl, Nat.zero_le _, by show (if r = 20 then 512 else 64) ≤ 140000; rw [if_neg h20]; omega, fun k hk => absurd hk (Nat.not_lt_zero _)⟩
  refine ⟨hr 0 (by decide) (by decide), hr 1 (by decide) (by decide), hr 2 (by decide) (by decide), hr 3 (by decide) (by decide), hr 4 (by decide) (by decide), hr 5 (by decide) (by decide), hr 6 (by decide) (by decide), RowL_rs h, hr 8 (by decide) (by decide), rfl, rfl, fun s _ => rfl, rfl, rfl, List.nodup_nil⟩
theorem init_E (hN : 150000 < N) : RC (np N0s 0 0) (C_Nam_init N N0s) (InQ 0 0) := by
  unfold C_Nam_init
  have h7 : RowL (rg N0s 7) [] := ⟨rfl, Nat.zero_le _, by show (64 : Nat) ≤ 140000; omega, fun k hk => absurd hk (Nat.not_lt_zero _)⟩
  obtain ⟨u, dc, ds, e, r, hc, -⟩ := C_Row_add_eq h7 (by decide) 0
  have hcap := capN_rs (σ := N0s) (u := u) (r := 7) (by omega)
  have hadd : RC (np N0s 0 0) (C_Row_add 0 (rg N0s 7)) (fun _ w c => w = u ∧ c = np (rs N0s 7 u) 0 0) := by
    refine ⟨0, u, dc, ds, _, e, ?_, rfl, rfl⟩
    obtain ⟨c1, c2⟩ := hc
    have e7 : (rg N0s 7).2.2 0 = N0s.2.2 7 := rfl
    rw [e7] at c1 c2
    constructor
    · simp only []; omega
    · simp only []; omega
  refine RC_then hadd (fun _ w c hw => ?_)
  obtain ⟨rfl, rfl⟩ := hw
  exact RC_bnd (init_ops (by omega) 128 0 N [] _ (by omega) (by omega) rfl (NmA_0 r))
end
