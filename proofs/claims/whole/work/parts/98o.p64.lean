/-! ===== the bytes of items; the reference's answers ===== -/
def ItW (i : AI) : Prop := i.1 ≠ 1 ∧ (i.1 = 64 → i.2.2.1 = 8) ∧ (i.1 = 4 → i.2.2.2.2.length ≤ i.2.2.1) ∧ (isJ i.1 = true → ∃ L, L ≤ 2 ∧ i.2.2.1 = 2 * 2 ^ L) ∧ (i.1 = 3 → i.2.2.1 = 0)
theorem byI_len {η : Int32 → AT → Int32 × Bool} {a : Int32} {i : AI} (h : ItW i) : (byI η a i).length = i.2.2.1 := by
  obtain ⟨h1, h64, h4, hJ, h3⟩ := h
  unfold byI
  by_cases c0 : i.1 = 0
  · rw [if_pos c0, wB_len]
  rw [if_neg c0]
  by_cases c2 : i.1 = 2
  · rw [if_pos c2, List.length_replicate]
  rw [if_neg c2]
  by_cases c3 : i.1 = 3
  · rw [if_pos (Or.inr c3), h3 c3]; rfl
  rw [if_neg (by simp [h1, c3])]
  by_cases c4 : i.1 = 4
  · have := h4 c4
    rw [if_pos c4, List.length_append, List.length_map, List.length_replicate]
    omega
  rw [if_neg c4]
  by_cases c61 : i.1 = 61
  · rw [if_pos c61, wB_len]
  rw [if_neg c61]
  by_cases c64 : i.1 = 64
  · rw [if_pos c64, aB_len, h64 c64]
  rw [if_neg c64]
  by_cases cJ : isJ i.1 = true
  · rw [if_pos cJ]
    obtain ⟨L, hL, hl⟩ := hJ cJ
    rw [hl, Lof_2 hL]
    unfold jB
    rcases (show L = 0 ∨ L = 1 ∨ L = 2 by omega) with rfl | rfl | rfl
    · rw [if_neg (by omega), if_neg (by omega), wB_len]
    · rw [if_neg (by omega), if_pos rfl, wB_len]
    · rw [if_pos rfl, List.length_append, wB_len, wB_len]
  · rw [if_neg cJ, wB_len]
theorem byB_len {η : Int32 → AT → Int32 × Bool} {a : Int32} : ∀ {l : List AI}, (∀ i ∈ l, ItW i) → (byB η a l).length = ilens l
  | [], _ => rfl
  | i :: r, h => by
    rw [ilens_cons, ← byB_len (η := η) (a := a) (fun j hj => h j (List.mem_cons_of_mem _ hj)), ← byI_len (η := η) (a := a) (h i List.mem_cons_self)]
    unfold byB
    rw [List.flatMap_cons, List.length_append]
theorem stm_it {η : Int32 → AT → Int32 × Bool} {lo : AT → Bool} {tk : List Int32 → Bool} {nm : List Int32} {o : OD} {ts : List AT} (ho : opO nm = some o) (hz : (stm η lo tk o ts).1 = 0) : ∀ i ∈ (stm η lo tk o ts).2.1, ItW i := by
  obtain ⟨ok1, ok2, ok5, ok4⟩ := opO_ok ho
  unfold stm at hz ⊢
  by_cases c1 : o.1 = 1 ∨ o.1 = 2
  · rw [if_pos c1]; intro i hi; cases hi
  rw [if_neg c1] at hz ⊢
  by_cases c3 : o.1 = 3
  · rw [if_pos c3]; intro i hi; cases hi
  rw [if_neg c3] at hz ⊢
  by_cases c4 : o.1 = 4
  · rw [if_pos c4]
    intro i hi
    obtain ⟨R, -, rfl⟩ := List.mem_map.mp hi
    exact ⟨by show (61 : Int32) ≠ 1; decide, fun z => absurd (show (61 : Int32) = 64 from z) (by decide), fun z => absurd (show (61 : Int32) = 4 from z) (by decide), fun z => absurd (show isJ 61 = true from z) (by decide), fun z => absurd (show (61 : Int32) = 3 from z) (by decide)⟩
  rw [if_neg c4] at hz ⊢
  by_cases c5 : o.1 = 5
  · rw [if_pos c5]
    intro i hi
    obtain ⟨R, -, rfl⟩ := List.mem_map.mp hi
    exact ⟨by show (4 : Int32) ≠ 1; decide, fun z => absurd (show (4 : Int32) = 64 from z) (by decide), fun _ => by show R.length ≤ R.length + _; omega, fun z => absurd (show isJ 4 = true from z) (by decide), fun z => absurd (show (4 : Int32) = 3 from z) (by decide)⟩
  rw [if_neg c5] at hz ⊢
  by_cases c6 : o.1 = 6
  · rw [if_pos c6]
    intro i hi
    rw [List.mem_singleton.mp hi]
    exact ⟨by show (2 : Int32) ≠ 1; decide, fun z => absurd (show (2 : Int32) = 64 from z) (by decide), fun z => absurd (show (2 : Int32) = 4 from z) (by decide), fun z => absurd (show isJ 2 = true from z) (by decide), fun z => absurd (show (2 : Int32) = 3 from z) (by decide)⟩
  rw [if_neg c6] at hz ⊢
  by_cases c7 : o.1 = 7
  · rw [if_pos c7]
    intro i hi
    rw [List.mem_singleton.mp hi]
    exact ⟨by show (3 : Int32) ≠ 1; decide, fun z => absurd (show (3 : Int32) = 64 from z) (by decide), fun z => absurd (show (3 : Int32) = 4 from z) (by decide), fun z => absurd (show isJ 3 = true from z) (by decide), fun _ => rfl⟩
  rw [if_neg c7] at hz ⊢
  by_cases c8 : o.1 = 8
  · rw [if_pos c8]
    intro i hi
    obtain ⟨R, -, rfl⟩ := List.mem_map.mp hi
    exact ⟨by show (0 : Int32) ≠ 1; decide, fun z => absurd (show (0 : Int32) = 64 from z) (by decide), fun z => absurd (show (0 : Int32) = 4 from z) (by decide), fun z => absurd (show isJ 0 = true from z) (by decide), fun z => absurd (show (0 : Int32) = 3 from z) (by decide)⟩
  rw [if_neg c8] at hz ⊢
  intro i hi
  have hmk := srO_mk (o := o) (ts := ts) ok1 hz
  rw [show i = _ from List.mem_singleton.mp hi]
  show (srO o ts).2.2.1 ≠ 1 ∧ ((srO o ts).2.2.1 = 64 → (len0 (srO o ts).2.2.1 (srO o ts).2.1).toNatClampNeg = 8) ∧ ((srO o ts).2.2.1 = 4 → _) ∧ (isJ (srO o ts).2.2.1 = true → ∃ L, L ≤ 2 ∧ (len0 (srO o ts).2.2.1 (srO o ts).2.1).toNatClampNeg = 2 * 2 ^ L) ∧ ((srO o ts).2.2.1 = 3 → _)
  have hno : ∀ c : Int32, c ≠ 0 → c ≤ 4 → isJ c = false → c ≠ 64 → (srO o ts).2.2.1 ≠ c := by
    intro c h0 hc hj h64 z
    rcases hmk (by rw [z]; exact hj) (by rw [z]; exact h64) with ⟨m1, -⟩ | ⟨-, m2⟩
    · exact h0 (z.symm.trans m1)
    · rw [z] at m2; exact absurd (Int32.lt_of_lt_of_le m2 hc) Int32.lt_irrefl
  refine ⟨hno 1 (by decide) (by decide) (by decide) (by decide), fun z => ?_, fun z => absurd z (hno 4 (by decide) (by decide) (by decide) (by decide)), fun z => ?_, fun z => absurd z (hno 3 (by decide) (by decide) (by decide) (by decide))⟩
  · rw [z]; unfold len0; rw [if_pos rfl]; rfl
  · have := len0_J (w := (srO o ts).2.1) z
    exact ⟨_, by omega, this.1⟩
theorem StW_it {X : List Int32} {Λ : List Lb} {e : Ev} (h : StW X Λ e) : ∀ i ∈ e.2.2.2.2.2, ItW i := by
  obtain ⟨a, r, o, lev, w1, w2, w3, w4, w5, w6, w7⟩ := h
  rw [w6]
  intro i hi
  obtain ⟨j, hj, rfl⟩ := List.mem_map.mp hi
  have hI := stm_it w4 w5 j hj
  unfold curL
  by_cases hJ : isJ j.1 = true
  · rw [if_pos hJ]
    obtain ⟨h1, h64, h4, -, h3⟩ := hI
    refine ⟨h1, fun z => ?_, fun z => ?_, fun _ => ⟨lev, ?_, rfl⟩, fun z => ?_⟩
    · exfalso; rw [show j.1 = 64 from z] at hJ; exact absurd hJ (by decide)
    · exfalso; rw [show j.1 = 4 from z] at hJ; exact absurd hJ (by decide)
    · rcases w7 with ⟨it, hit, hJ2, j1, j2⟩ | ⟨hn, hl0⟩
      · have := (len0_J (w := it.2.1) hJ2).2.2; omega
      · omega
    · exfalso; rw [show j.1 = 3 from z] at hJ; exact absurd hJ (by decide)
  · rw [if_neg hJ]; exact hI
theorem WfE_it {X : List Int32} {E E1 E2 : List Ev} {e : Ev} (hW : WfE X E) (hE : E = E1 ++ e :: E2) (h5 : e.1 = 5) : ∀ i ∈ e.2.2.2.2.2, ItW i := StW_it ((hW E1 e E2 hE).2.2.2.2.1 h5)
section
variable {N : Nat} {X : List Int32} {E : List Ev} {σ : MS} {kr : Nat}
theorem SIt_il {l : List AI} (h : SIt l) : ilens l ≤ 40000 := by
  rcases h with ⟨h1, h2⟩ | ⟨k, k1, rfl⟩ | ⟨mk, w, lev, R, rfl, hJ, h1, h2⟩
  · exact h2
  · show 0 + 0 ≤ 40000; omega
  · have := (len0_J (w := w) hJ).2.2
    have : 2 ^ lev ≤ 2 ^ 2 := Nat.pow_le_pow_right (by omega) (by omega)
    show 2 * 2 ^ lev + 0 ≤ 40000
    omega
theorem M_byteAt_eq (hN : 4200 < N) (hL : LdS X E kr σ) (h3 : σ.1 3 = 1) (hck : ckE X E (0, 0) E = 0) (x : Int32) : (∃ k r σ', x = nI k ∧ k < allN E ∧ M_byteAt N x σ = some (r, σ') ∧ FQ σ σ' ∧ σ'.1 0 = 0 ∧ BytR X E k r) ∨ ((x < 0 ∨ ∃ k, x = nI k ∧ k < 2 ^ 31 ∧ allN E ≤ k) ∧ ∃ r σ', M_byteAt N x σ = some (r, σ') ∧ FQ σ σ' ∧ σ'.1 0 = 1) := by
  have hX := hL.1.small
  have hW := hL.2.1
  have hSI := WfE_SI hX hW
  have hla := lay_all hX hW
  have hal : allN E < 2 ^ 31 := by unfold allN bsE baseN; split <;> omega
  have bad : M_byteAt_12 N σ = some (0, sF σ 0 1) := rfl
  unfold M_byteAt
  by_cases hx : x < 0
  · right
    rw [if_pos hx, bad]
    exact ⟨Or.inl hx, _, _, rfl, FQ.s0 _ _, rfl⟩
  rw [if_neg hx, M_all_eq hX hW h3 hL.2.2.2.1 hL.2.2.2.2.1]
  simp only [cr, Option.bind_some]
  obtain ⟨k, hk, rfl⟩ := nI_ofNeg hx
  by_cases hka : k < allN E
  · left
    rw [if_pos (by rw [nI_ltI hk hal]; exact hka)]
    simp only [bnd]
    have hL0 := hL.fq (FQ.s0 σ 0)
    rcases M_holder_eq hN hL0 hk with ⟨h1, h2⟩ | ⟨E1, e, E2, hE, h5, hc, h1⟩
    · rw [h1]
      simp only [Option.bind_some]
      rw [if_neg (by decide)]
      exact ⟨k, 0, _, rfl, hka, rfl, FQ.s0 _ _, rfl, Or.inl ⟨h2, rfl⟩⟩
    · rw [h1]
      simp only [Option.bind_some]
      obtain ⟨hq, ho, hsl, hs⟩ := hL0.at hE h5
      rw [if_pos (by rw [show (0 : Int32) = nI 0 from rfl, nI_leI (by omega) (by omega)]; omega), M_addressOf_eq hX hW hL0.2.2.2.1 hE h5 hs hq ho]
      simp only [Option.bind_some]
      obtain ⟨g1, g2, g3, g4, g5, g6, g7, g8, g9, ⟨ln, hln, g10⟩, g11, g12⟩ := hL0
      have C : AgC N X E ln (sF (sF σ 0 0) 21 (nI k - aE E (lay (0, 0) E1) e)) := ⟨hN, g1.sFk 21 _ (by decide), ⟨g3.1, g3.2.1, g3.2.2⟩, g4, g10, hln, g11, g2⟩
      obtain ⟨v, σ', m1, m2⟩ := M_again_eq C hE h5 hs (show StQ (sF (sF σ 0 0) 21 (nI k - aE E (lay (0, 0) E1) e)) (StE E1).length e from hq) ho (md := 3) (Or.inr (Or.inr rfl))
      rw [m1]
      rcases m2 with ⟨z, -⟩ | ⟨-, FA4, -, hgw⟩
      · exact absurd z (by decide)
      have hcb := ckE_all E E [] hck rfl E1 e E2 hE h5
      have h22 := hgw rfl hcb
      refine ⟨k, σ'.1 22, σ', rfl, hka, rfl, ⟨fun j v1 v2 v3 => ?_, fun j hj => ?_⟩, ?_, Or.inr ⟨E1, e, E2, hE, h5, hc, ?_⟩⟩
      · rw [FA4.1 j v1, sF_ne _ _ v3, sF_ne _ _ v2]
      · rw [FA4.2 j hj]; rfl
      · rw [FA4.1 0 (by decide), sF_ne _ _ (by decide), sF_at]
      · rw [h22, sF_at]
        obtain ⟨b1, b2'⟩ := ad_lt hX hW hE
        have hl := byB_len (η := ηE X E (lay (0, 0) E1) e) (a := aE E (lay (0, 0) E1) e) (WfE_it hW hE h5)
        have hil := SIt_il ((hSI e (by rw [hE]; simp)).1 h5)
        rw [show nI k - aE E (lay (0, 0) E1) e = nI (k - adS (bsE E) (lay (0, 0) E1) e.2.2.2.1) from pk_sub hc.1, gwi_get _ _ (by omega) (by omega)]
  · right
    rw [if_neg (by rw [nI_ltI hk hal]; exact hka), bad]
    exact ⟨Or.inr ⟨k, rfl, hk, by omega⟩, _, _, rfl, FQ.s0 _ _, rfl⟩
theorem M_line_eq (hN : 4200 < N) (hL : LdS X E kr σ) (h3 : σ.1 3 = 1) (x : Int32) : ∃ r σ', M_line N x σ = some (r, σ') ∧ FQ σ σ' ∧ ((∃ k, x = nI k ∧ k < allN E ∧ LinR E k r) ∨ ((x < 0 ∨ ∃ k, x = nI k ∧ k < 2 ^ 31 ∧ allN E ≤ k) ∧ r = 0)) := by
  have hX := hL.1.small
  have hW := hL.2.1
  have hSI := WfE_SI hX hW
  have hla := lay_all hX hW
  have hal : allN E < 2 ^ 31 := by unfold allN bsE baseN; split <;> omega
  have hL0 := hL.fq (FQ.s0 σ 0)
  have bad : M_line_17 N (sF σ 0 0) = some (0, sF σ 0 0) := rfl
  unfold M_line
  simp only [bnd]
  by_cases hx : x < 0
  · rw [if_pos hx, bad]
    exact ⟨_, _, rfl, FQ.s0 _ _, Or.inr ⟨Or.inl hx, rfl⟩⟩
  rw [if_neg hx, M_all_eq hX hW (σ := sF σ 0 0) h3 hL.2.2.2.1 hL.2.2.2.2.1]
  simp only [cr, Option.bind_some]
  obtain ⟨k, hk, rfl⟩ := nI_ofNeg hx
  by_cases hka : k < allN E
  · rw [if_pos (by rw [nI_ltI hk hal]; exact hka)]
    rcases M_holder_eq hN hL0 hk with ⟨h1, h2⟩ | ⟨E1, e, E2, hE, h5, hc, h1⟩
    · rw [h1]
      exact ⟨0, _, rfl, FQ.s0 _ _, Or.inl ⟨k, rfl, hka, Or.inl ⟨h2, rfl⟩⟩⟩
    · rw [h1]
      simp only [Option.bind_some]
      obtain ⟨hq, ho, hsl, hs⟩ := hL0.at hE h5
      have hw := hW E1 e E2 hE
      obtain ⟨l1, l2, l3⟩ := SIt_lev ((hSI e (by rw [hE]; simp)).1 h5)
      unfold M_line_26 M_line_49
      rw [if_pos (by rw [show (0 : Int32) = nI 0 from rfl, nI_leI (by omega) (by omega)]; omega), gd_t (inB_nI hs (by omega)), nI_clamp (by omega), hq.1, pl_start (by have := hw.2.1; omega) l1 hw.2.2.1 l2, M_lineOf_eq hL0.1 hN (by have := hw.2.1; omega)]
      simp only [cr, Option.bind_some]
      exact ⟨_, _, rfl, FQ.s0 _ _, Or.inl ⟨k, rfl, hka, Or.inr ⟨E1, e, E2, hE, h5, hc, by rw [hw.2.2.2.1]⟩⟩⟩
  · rw [if_neg (by rw [nI_ltI hk hal]; exact hka), bad]
    exact ⟨_, _, rfl, FQ.s0 _ _, Or.inr ⟨Or.inr ⟨k, rfl, hk, by omega⟩, rfl⟩⟩
/-- labels by their number -/
theorem M_labelAt_eq (hN : 4200 < N) {Λ : List Lb} (hX : X.length ≤ 4096) (hLb : LBs X σ Λ) (h3 : σ.1 3 = 1) (x : Int32) : M_labelAt N x σ = some (oI (if x < 0 then none else lbAt Λ x.toNatClampNeg 0)) := by
  obtain ⟨L1, L2, L3⟩ := hLb
  have loop : ∀ (m i n : Nat), i ≤ Λ.length → Λ.length - i < m → n < 2 ^ 31 → M_labelAt_15 N m (nI n) (nI i) σ = some (oI (lbAt (Λ.drop i) n i)) := by
    intro m
    induction m with
    | zero => intro i n _ h; omega
    | succ m ih =>
      intro i n hi hm hn
      rw [M_labelAt_15]
      show (if σ.1 5 ≤ nI i then _ else _) = _
      rw [L1]
      by_cases he : Λ.length ≤ i
      · rw [if_pos (by rw [nI_leI (by omega) (by omega)]; exact he), List.drop_eq_nil_of_le he]
        rfl
      · obtain ⟨g1, g2, g3, g4⟩ := L3 i (by omega)
        rw [if_neg (by rw [nI_leI (by omega) (by omega)]; exact he), if_neg (nI_pos hn), gd_t (inB_nI (by omega) (by omega)), nI_clamp (by omega), g3, (lb_kind g2 (by omega)).1, drop_cons Λ (by omega) lb0, lbAt]
        by_cases hk : (Λ.getD i lb0).2.1 < 2
        · rw [if_pos (by rw [show (2 : Int32) = nI 2 from rfl, nI_ltI (by omega) (by omega)]; exact hk), if_pos hk]
          by_cases hn0 : n = 0
          · rw [if_pos (by rw [hn0]; rfl), if_pos hn0]; rfl
          · rw [if_neg (by rw [show (0 : Int32) = nI 0 from rfl, nI_eq (by omega) (by omega)]; exact hn0), if_neg hn0]
            unfold M_labelAt_52
            obtain ⟨n', rfl⟩ : ∃ n', n = n' + 1 := ⟨n - 1, by omega⟩
            rw [pk_m1, nI_1]
            exact ih (i + 1) n' (by omega) (by omega) (by omega)
        · rw [if_neg (by rw [show (2 : Int32) = nI 2 from rfl, nI_ltI (by omega) (by omega)]; exact hk), if_neg hk]
          unfold M_labelAt_52
          rw [nI_1]
          exact ih (i + 1) n (by omega) (by omega) hn
  unfold M_labelAt M_labelAt_12
  rw [if_neg (by rw [h3]; decide)]
  by_cases hx : x < 0
  · rw [if_pos hx]
    obtain ⟨N', rfl⟩ : ∃ N', N = N' + 1 := ⟨N - 1, by omega⟩
    rw [M_labelAt_15]
    show (if σ.1 5 ≤ 0 then _ else _) = _
    split
    · rfl
    · rfl
  · rw [if_neg hx]
    obtain ⟨n, hn, rfl⟩ := nI_ofNeg hx
    rw [nI_clamp hn]
    exact loop N 0 n (by omega) (by omega) hn
/-- the named labels: where they stand in the text, their addresses -/
def nmLb (E : List Ev) : List (Nat × Int32) := ((lbS (0, 0) E).filter nmP).map (fun l => (l.1, valL (nI (bsE E)) l))
theorem nmLb_at {n k : Nat} (h : lbAt (lbS (0, 0) E) n 0 = some k) : k < (lbS (0, 0) E).length ∧ n < (nmLb E).length ∧ (nmLb E).getD n (0, 0) = (((lbS (0, 0) E).getD k lb0).1, valL (nI (bsE E)) ((lbS (0, 0) E).getD k lb0)) := by
  obtain ⟨g1, g2, g3, g4⟩ := (lbAt_f _ _ _).1 k h
  rw [Nat.sub_zero] at g4
  unfold nmLb
  refine ⟨by omega, by rw [List.length_map]; exact g3, ?_⟩
  rw [gD_e (by rw [List.length_map]; exact g3), List.getElem_map, ← gD_e (d := lb0) g3, g4]
theorem nmLb_no {n : Nat} (h : lbAt (lbS (0, 0) E) n 0 = none) : (nmLb E).length ≤ n := by
  unfold nmLb
  rw [List.length_map]
  exact (lbAt_f _ _ _).2 h
theorem M_address_eq (hN : 4200 < N) (hL : LdS X E kr σ) (h3 : σ.1 3 = 1) (x : Int32) : (∃ n σ', x = nI n ∧ n < (nmLb E).length ∧ M_address N x σ = some (((nmLb E).getD n (0, 0)).2, σ') ∧ FQ σ σ' ∧ σ'.1 0 = 0) ∨ ((x < 0 ∨ ∃ n, x = nI n ∧ n < 2 ^ 31 ∧ (nmLb E).length ≤ n) ∧ ∃ r σ', M_address N x σ = some (r, σ') ∧ FQ σ σ' ∧ σ'.1 0 = 1) := by
  have hX := hL.1.small
  have hla := lay_all hX hL.2.1
  unfold M_address
  rw [M_labelAt_eq hN hX hL.2.2.1 h3]
  simp only [cr, Option.bind_some]
  have no : oI none = (-1 : Int32) := rfl
  by_cases hx : x < 0
  · right
    rw [if_pos hx, no, if_neg (by decide)]
    unfold M_address_16 M_address_32
    exact ⟨Or.inl hx, _, _, rfl, FQ.s0 _ _, rfl⟩
  · rw [if_neg hx]
    obtain ⟨n, hn, rfl⟩ := nI_ofNeg hx
    rw [nI_clamp hn]
    cases hl : lbAt (lbS (0, 0) E) n 0 with
    | none =>
      right
      rw [no, if_neg (by decide)]
      unfold M_address_16 M_address_32
      exact ⟨Or.inr ⟨n, rfl, hn, nmLb_no hl⟩, _, _, rfl, FQ.s0 _ _, rfl⟩
    | some k =>
      left
      obtain ⟨g1, g2, g3⟩ := nmLb_at hl
      have hlen := hL.2.2.1.2.1
      rw [show oI (some k) = nI k from rfl, if_pos (by rw [show (0 : Int32) = nI 0 from rfl, nI_leI (by omega) (by omega)]; omega)]
      unfold M_address_16 M_address_32
      simp only [bnd]
      have hb : LBs X (sF σ 0 0) (lbS (0, 0) E) := ⟨hL.2.2.1.1, hL.2.2.1.2.1, hL.2.2.1.2.2⟩
      rw [if_pos (by rw [show (0 : Int32) = nI 0 from rfl, nI_leI (by omega) (by omega)]; omega), M_valueOf_eq hX hb g1, baseR_eq (σ := sF σ 0 0) hL.2.2.2.1 (by omega)]
      simp only [cr, Option.bind_some]
      exact ⟨n, _, rfl, g2, by rw [g3], FQ.s0 _ _, rfl⟩
theorem isC_ok {c : Int32} (h : okT c) : isC c = true := by
  obtain ⟨k, hk, rfl⟩ := okT_nI h
  have : ∀ k, k < 127 → isC (nI k) = true := by decide
  exact this k hk
theorem M_letter_eq (hN : 4200 < N) (hL : LdS X E kr σ) (hV : ∀ c ∈ X, okT c) (h3 : σ.1 3 = 1) (x y : Int32) : (∃ n i σ', x = nI n ∧ y = nI i ∧ n < (nmLb E).length ∧ i < (nmAt X ((nmLb E).getD n (0, 0)).1).length ∧ M_letter N x y σ = some ((nmAt X ((nmLb E).getD n (0, 0)).1).getD i 0, σ') ∧ FQ σ σ' ∧ σ'.1 0 = 0) ∨ ((x < 0 ∨ (∃ n, x = nI n ∧ n < 2 ^ 31 ∧ (nmLb E).length ≤ n) ∨ y < 0 ∨ ∃ n i, x = nI n ∧ n < (nmLb E).length ∧ y = nI i ∧ i < 2 ^ 31 ∧ (nmAt X ((nmLb E).getD n (0, 0)).1).length ≤ i) ∧ ∃ r σ', M_letter N x y σ = some (r, σ') ∧ FQ σ σ' ∧ σ'.1 0 = 1) := by
  have hX := hL.1.small
  have hla := lay_all hX hL.2.1
  unfold M_letter
  rw [M_labelAt_eq hN hX hL.2.2.1 h3]
  simp only [cr, Option.bind_some]
  have no : oI none = (-1 : Int32) := rfl
  have bad : ∀ t : Int32, ∃ r σ', M_letter_48 N y t σ = some (r, σ') ∧ FQ σ σ' ∧ σ'.1 0 = 1 := by
    intro t
    unfold M_letter_48 M_letter_53 M_letter_76
    simp only [bnd]
    rw [sF_at, if_neg (by decide), gd_t (by decide)]
    exact ⟨_, _, rfl, FQ.s0 _ _, rfl⟩
  by_cases hx : x < 0
  · right
    rw [if_pos hx, no, if_neg (by decide)]
    unfold M_letter_24
    rw [if_pos (by decide)]
    exact ⟨Or.inl hx, bad 0⟩
  · rw [if_neg hx]
    obtain ⟨n, hn, rfl⟩ := nI_ofNeg hx
    rw [nI_clamp hn]
    cases hl : lbAt (lbS (0, 0) E) n 0 with
    | none =>
      right
      rw [no, if_neg (by decide)]
      unfold M_letter_24
      rw [if_pos (by decide)]
      exact ⟨Or.inr (Or.inl ⟨n, rfl, hn, nmLb_no hl⟩), bad 0⟩
    | some k =>
      obtain ⟨g1, g2, g3⟩ := nmLb_at hl
      have hlen := hL.2.2.1.2.1
      obtain ⟨p1, p2, p3, p4⟩ := hL.2.2.1.2.2 k g1
      rw [show oI (some k) = nI k from rfl, if_pos (by rw [show (0 : Int32) = nI 0 from rfl, nI_leI (by omega) (by omega)]; omega), gd_t (inB_nI (by omega) (by omega)), nI_clamp (by omega), p3, (lb_kind p2 (by omega)).2]
      have eP : ((nmLb E).getD n (0, 0)).1 = ((lbS (0, 0) E).getD k lb0).1 := by rw [g3]
      generalize ((lbS (0, 0) E).getD k lb0).1 = p at *
      unfold M_letter_24
      rw [if_neg (nI_pos (by omega))]
      by_cases hy : y < 0
      · right
        rw [if_pos hy]
        exact ⟨Or.inr (Or.inr (Or.inl hy)), bad _⟩
      · rw [if_neg hy]
        obtain ⟨i, hi, rfl⟩ := nI_ofNeg hy
        rw [M_plain_eq hL.1 (by omega) (by omega)]
        simp only [cr, Option.bind_some]
        have hge := pend_ge (tw X) X.length p
        have hle := pend_le (tw X) X.length p (by omega)
        have hnl : (nmAt X p).length = pend (tw X) X.length p - p := by unfold nmAt; rw [cut_len X hle]
        rw [pk_sub hge]
        by_cases hlt : i < pend (tw X) X.length p - p
        · left
          rw [if_pos (by rw [nI_ltI hi (by omega)]; exact hlt)]
          unfold M_letter_53 M_letter_76
          simp only [bnd]
          rw [sF_at, if_pos (by decide), nI_add, gd_t (inB_nI (by omega) (by omega)), nI_clamp (by omega)]
          have et : (sF σ 0 0).2 1 (p + i) = tw X (p + i) := hL.1.text _ (by omega)
          have eg : (nmAt X p).getD i 0 = tw X (p + i) := by unfold nmAt; exact cut_getD X hlt
          rw [et, gd_t (isC_ok (hV _ (getD_mem (by omega))))]
          exact ⟨n, i, _, rfl, rfl, g2, by rw [eP, hnl]; exact hlt, by rw [eP, eg], FQ.s0 _ _, rfl⟩
        · right
          rw [if_neg (by rw [nI_ltI hi (by omega)]; exact hlt)]
          exact ⟨Or.inr (Or.inr (Or.inr ⟨n, i, rfl, g2, rfl, hi, by rw [eP, hnl]; omega⟩)), bad _⟩
theorem M_before_eq (hN : 4200 < N) (hL : LdS X E kr σ) (h3 : σ.1 3 = 1) (x : Int32) : ∃ σ', M_before N x σ = some (befR x ((nmLb E).map (fun p => p.2)) (-1) 0 0, σ') ∧ FQ σ σ' := by
  have hX := hL.1.small
  have hla := lay_all hX hL.2.1
  have h0 : LBs X (sF σ 0 0) (lbS (0, 0) E) := ⟨hL.2.2.1.1, hL.2.2.1.2.1, hL.2.2.1.2.2⟩
  have eb : baseR (sF σ 0 0) = nI (bsE E) := baseR_eq (σ := sF σ 0 0) hL.2.2.2.1 (by omega)
  have emap : (nmLb E).map (fun p => p.2) = ((lbS (0, 0) E).filter nmP).map (valL (nI (bsE E))) := by
    unfold nmLb
    rw [List.map_map]
    rfl
  rw [emap]
  generalize lbS (0, 0) E = Λ at *
  have h0' := h0
  obtain ⟨L1, L2, L3⟩ := h0
  have loop : ∀ (m i n : Nat) (best ad : Int32), i ≤ Λ.length → Λ.length - i < m → n ≤ i → M_before_15 N m x best ad (nI n) (nI i) (sF σ 0 0) = some (befR x (((Λ.drop i).filter nmP).map (valL (nI (bsE E)))) best ad n, sF σ 0 0) := by
    intro m
    induction m with
    | zero => intro i n best ad _ h; omega
    | succ m ih =>
      intro i n best ad hi hm hn
      rw [M_before_15]
      show (if (sF σ 0 0).1 5 ≤ nI i then _ else _) = _
      rw [L1]
      by_cases he : Λ.length ≤ i
      · rw [if_pos (by rw [nI_leI (by omega) (by omega)]; exact he), List.drop_eq_nil_of_le he]
        rfl
      · obtain ⟨g1, g2, g3, g4⟩ := L3 i (by omega)
        rw [if_neg (by rw [nI_leI (by omega) (by omega)]; exact he), if_neg (by show ¬ σ.1 3 = 0; rw [h3]; decide), gd_t (inB_nI (by omega) (by omega)), nI_clamp (by omega), g3, (lb_kind g2 (by omega)).1, drop_cons Λ (by omega) lb0, List.filter_cons]
        by_cases hk : (Λ.getD i lb0).2.1 < 2
        · rw [if_pos (by rw [show (2 : Int32) = nI 2 from rfl, nI_ltI (by omega) (by omega)]; exact hk), if_pos (show nmP (Λ.getD i lb0) = true from decide_eq_true hk), M_valueOf_eq hX h0' (by omega), eb]
          simp only [cr, Option.bind_some, List.map_cons]
          rw [befR]
          unfold M_before_72 M_before_78 M_before_81
          rw [nI_1, nI_1]
          rw [ih (i + 1) (n + 1) best ad (by omega) (by omega) (by omega), ih (i + 1) (n + 1) (nI n) (valL (nI (bsE E)) (Λ.getD i lb0)) (by omega) (by omega) (by omega)]
          split
          · rfl
          · split
            · rfl
            · split <;> rfl
        · rw [if_neg (by rw [show (2 : Int32) = nI 2 from rfl, nI_ltI (by omega) (by omega)]; exact hk), if_neg (show ¬ nmP (Λ.getD i lb0) = true from fun z => hk (of_decide_eq_true z))]
          unfold M_before_81
          rw [nI_1]
          exact ih (i + 1) n best ad (by omega) (by omega) (by omega)
  unfold M_before
  simp only [bnd]
  refine ⟨sF σ 0 0, ?_, FQ.s0 _ _⟩
  exact loop N 0 0 (-1) 0 (by omega) (by omega) (by omega)
theorem M_labelsOf_eq (hN : 4200 < N) {Λ : List Lb} (hX : X.length ≤ 4096) (hLb : LBs X σ Λ) : M_labelsOf N 0 σ = some (nI (Λ.filter nmP).length) ∧ M_labelsOf N 1 σ = some (nI (Λ.filter cnP).length) := by
  obtain ⟨L1, L2, L3⟩ := hLb
  have loop : ∀ (m i n : Nat), i ≤ Λ.length → Λ.length - i < m → M_labelsOf_4 N m 0 (nI n) (nI i) σ = some (nI (n + ((Λ.drop i).filter nmP).length)) ∧ M_labelsOf_4 N m 1 (nI n) (nI i) σ = some (nI (n + ((Λ.drop i).filter cnP).length)) := by
    intro m
    induction m with
    | zero => intro i n _ h; omega
    | succ m ih =>
      intro i n hi hm
      have hd : i < Λ.length → Λ.drop i = Λ.getD i lb0 :: Λ.drop (i + 1) := fun h => drop_cons Λ h lb0
      refine ⟨?_, ?_⟩
      · rw [M_labelsOf_4]
        show (if σ.1 5 ≤ nI i then some (nI n) else _) = _
        rw [L1]
        by_cases he : Λ.length ≤ i
        · rw [if_pos (by rw [nI_leI (by omega) (by omega)]; exact he), List.drop_eq_nil_of_le he]
          rfl
        · obtain ⟨g1, g2, g3, g4⟩ := L3 i (by omega)
          rw [if_neg (by rw [nI_leI (by omega) (by omega)]; exact he), if_pos rfl, gd_t (inB_nI (by omega) (by omega)), nI_clamp (by omega), g3, (lb_kind g2 (by omega)).1, hd (by omega), List.filter_cons]
          unfold M_labelsOf_59
          rw [nI_1, nI_1]
          by_cases hk : (Λ.getD i lb0).2.1 < 2
          · rw [if_neg (by rw [show (2 : Int32) = nI 2 from rfl, nI_leI (by omega) (by omega)]; omega), if_pos (show nmP (Λ.getD i lb0) = true from decide_eq_true hk), (ih (i + 1) (n + 1) (by omega) (by omega)).1, List.length_cons]
            congr 2
            omega
          · rw [if_pos (by rw [show (2 : Int32) = nI 2 from rfl, nI_leI (by omega) (by omega)]; omega), if_neg (show ¬ nmP (Λ.getD i lb0) = true from fun z => hk (of_decide_eq_true z)), (ih (i + 1) n (by omega) (by omega)).1]
      · rw [M_labelsOf_4]
        show (if σ.1 5 ≤ nI i then some (nI n) else _) = _
        rw [L1]
        by_cases he : Λ.length ≤ i
        · rw [if_pos (by rw [nI_leI (by omega) (by omega)]; exact he), List.drop_eq_nil_of_le he]
          rfl
        · obtain ⟨g1, g2, g3, g4⟩ := L3 i (by omega)
          rw [if_neg (by rw [nI_leI (by omega) (by omega)]; exact he), if_neg (show ¬ (1 : Int32) = 0 by decide), gd_t (inB_nI (by omega) (by omega)), nI_clamp (by omega), g3, (lb_kind g2 (by omega)).1, hd (by omega), List.filter_cons]
          unfold M_labelsOf_59
          rw [nI_1, nI_1]
          by_cases hk : (Λ.getD i lb0).2.1 = 2
          · rw [if_pos (by rw [hk]; rfl), if_pos (show cnP (Λ.getD i lb0) = true from decide_eq_true hk), (ih (i + 1) (n + 1) (by omega) (by omega)).2, List.length_cons]
            congr 2
            omega
          · rw [if_neg (by rw [show (2 : Int32) = nI 2 from rfl, nI_eq (by omega) (by omega)]; exact hk), if_neg (show ¬ cnP (Λ.getD i lb0) = true from fun z => hk (of_decide_eq_true z)), (ih (i + 1) n (by omega) (by omega)).2]
  unfold M_labelsOf
  have h := loop N 0 0 (by omega) (by omega)
  rw [List.drop_zero, Nat.zero_add, Nat.zero_add] at h
  exact h
/-- size() of the reference: what it is of an assembled text -/
def szX (E : List Ev) (kr : Nat) (w : Nat) : Nat := if w = 0 then (lay (0, 0) E).1 else if w = 1 then bsE E else if w = 2 then allN E else if w = 3 then ((LbE E).filter nmP).length else if w = 4 then ((LbE E).filter cnP).length else kr
theorem lbS_flt (p : Nat → Bool) : ∀ (E : List Ev) (s : Sz), ((lbS s E).filter (fun l => p l.2.1)).length = ((LbE E).filter (fun l => p l.2.1)).length
  | [], s => rfl
  | e :: E, s => by
    rw [LbE_cons]
    show ((_ ++ lbS (stepE s e) E).filter _).length = _
    rw [List.filter_append, List.filter_append, List.length_append, List.length_append, lbS_flt p E (stepE s e)]
    congr 1
    by_cases hk : e.1 < 5
    · rw [if_pos hk, if_pos hk]
      simp only [List.filter_cons, List.filter_nil]
      split <;> rfl
    · rw [if_neg hk, if_neg hk]
theorem M_size_eq (hN : 4200 < N) (hL : LdS X E kr σ) (h3 : σ.1 3 = 1) (x : Int32) : (∃ w σ', w ≤ 5 ∧ x = nI w ∧ M_size N x σ = some (nI (szX E kr w), σ') ∧ FQ σ σ' ∧ σ'.1 0 = 0) ∨ ((¬ ∃ w, w ≤ 5 ∧ x = nI w) ∧ ∃ r σ', M_size N x σ = some (r, σ') ∧ FQ σ σ' ∧ σ'.1 0 = 2) := by
  have hX := hL.1.small
  have hla := lay_all hX hL.2.1
  unfold M_size
  rw [if_neg (by rw [h3]; decide)]
  have bad : M_size_22 N σ = some (0, sF σ 0 2) := rfl
  by_cases hx : x < 0
  · right
    rw [if_pos hx, bad]
    refine ⟨fun ⟨w, h1, h2⟩ => ?_, _, _, rfl, FQ.s0 _ _, rfl⟩
    rw [h2] at hx
    exact nI_pos (by omega) hx
  rw [if_neg hx]
  obtain ⟨w, hw, rfl⟩ := nI_ofNeg hx
  by_cases h5 : w ≤ 5
  · left
    rw [if_pos (by rw [show (5 : Int32) = nI 5 from rfl, nI_leI hw (by omega)]; exact h5)]
    simp only [bnd]
    have hb : LBs X (sF σ 0 0) (lbS (0, 0) E) := ⟨hL.2.2.1.1, hL.2.2.1.2.1, hL.2.2.1.2.2⟩
    have e1 := M_base_eq (σ := sF σ 0 0) hL.2.2.2.1 (by omega)
    have e2 := M_all_eq (σ := sF σ 0 0) hX hL.2.1 h3 hL.2.2.2.1 hL.2.2.2.2.1
    obtain ⟨e3, e4⟩ := M_labelsOf_eq hN hX hb
    have f3 : ((lbS (0, 0) E).filter nmP).length = ((LbE E).filter nmP).length := lbS_flt (fun k => decide (k < 2)) E (0, 0)
    have f4 : ((lbS (0, 0) E).filter cnP).length = ((LbE E).filter cnP).length := lbS_flt (fun k => decide (k = 2)) E (0, 0)
    refine ⟨w, sF σ 0 0, h5, rfl, ?_, FQ.s0 _ _, rfl⟩
    rw [e1, e2, e3, e4, f3, f4]
    unfold M_size_98 szX
    simp only [cr, Option.bind_some]
    have ew : ∀ j, j < 6 → ((nI w = nI j) ↔ w = j) := fun j hj => nI_eq hw (by omega)
    have w0 := ew 0 (by omega); have w1 := ew 1 (by omega); have w2 := ew 2 (by omega); have w3 := ew 3 (by omega); have w4 := ew 4 (by omega)
    rcases (show w = 0 ∨ w = 1 ∨ w = 2 ∨ w = 3 ∨ w = 4 ∨ w = 5 by omega) with rfl | rfl | rfl | rfl | rfl | rfl
    · exact congrArg some (Prod.ext hL.2.2.2.1 rfl)
    · rfl
    · rfl
    · rfl
    · rfl
    · exact congrArg some (Prod.ext hL.2.2.2.2.2.2.2.2.2.2.2 rfl)
  · right
    rw [if_neg (by rw [show (5 : Int32) = nI 5 from rfl, nI_leI hw (by omega)]; exact h5), bad]
    refine ⟨fun ⟨v, h1, h2⟩ => ?_, _, _, rfl, FQ.s0 _ _, rfl⟩
    rw [nI_eq hw (by omega)] at h2
    omega
end
