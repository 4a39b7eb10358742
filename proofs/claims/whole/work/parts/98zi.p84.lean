/-! ===== the class's parser: all lines ===== -/
def nE (ts : List AT) : Nat := (ts.filter (fun a => decide (AT.k a = 0))).length
theorem nE_cons (a : AT) (r : List AT) : nE (a :: r) = (if a.k = 0 then 1 else 0) + nE r := by
  unfold nE
  rw [List.filter_cons]
  by_cases h : a.k = 0
  · rw [if_pos h, if_pos (decide_eq_true h), List.length_cons]; omega
  · rw [if_neg h, if_neg (by simpa using h)]; omega
theorem nE_suf {rest ts : List AT} {k : Nat} (h : Suf rest ts k) : nE ts = nE rest := by
  obtain ⟨pre, rfl, -, hp⟩ := h
  induction pre with
  | nil => rfl
  | cons a p ih =>
    rw [List.cons_append, nE_cons, if_neg (hp a List.mem_cons_self).1, ih (fun b hb => hp b (List.mem_cons_of_mem _ hb))]
    omega
theorem nE_pos {ts : List AT} (h : HasE ts) : 1 ≤ nE ts := by
  obtain ⟨a, ha, hk⟩ := h
  unfold nE
  exact List.length_pos_of_mem (List.mem_filter.mpr ⟨ha, decide_eq_true hk⟩)
theorem rdLine_suf {X : List Int32} {sec ln : Nat} (hsec : sec < 2) {ts : List AT} {E : List Ev} (hk2 : ∀ a, (rdLab X sec ln ts.length ts E).2.1 = some a → a.k = 2) (h : (rdLine X sec ln ts E).1 = 0) : Suf (rdLine X sec ln ts E).2.2.2 ts 0 := by
  unfold rdLine at h ⊢
  by_cases hz : (rdLab X sec ln ts.length ts E).1 ≠ 0
  · rw [if_pos hz] at h; exact absurd h hz
  rw [if_neg hz] at h ⊢
  obtain ⟨-, w2, w3⟩ := rdLab_suf X sec ln hsec ts.length ts E (Decidable.not_not.mp hz)
  generalize rdLab X sec ln ts.length ts E = t at *
  cases hm : t.2.1 with
  | none => simp only [Option.elim_none]; exact w3 hm
  | some a =>
    rw [hm] at h
    simp only [Option.elim_some] at h ⊢
    have s1 := w2 a hm
    have ka := hk2 a hm
    have s2 : Suf t.2.2.1 (a :: t.2.2.1) 1 := Suf.c1 (by rw [ka]; decide) (by rw [ka]; decide)
    unfold rdSt at h ⊢
    cases ho : opO a.nm with
    | none => rw [ho] at h; exact absurd h (show ¬ (2 : Nat) = 0 by omega)
    | some o =>
      rw [ho] at h
      change fnF (stK X (LbE t.2.2.2) o t.2.2.1) = 0 at h
      have s3 := stm_suf (show (stm (ηK X (LbE t.2.2.2)) (loR X (LbE t.2.2.2)) (tkA X (LbE t.2.2.2)) o t.2.2.1).1 = 0 from (fnF_0 h).1)
      exact ((s3.tr s2).tr s1).le (Nat.zero_le _)
section
variable {N : Nat} {X : List Int32} {ns : List (List Int32)} {Y op re od : List Int32} {sG sR sL sX sE sY : CS} {x y : Nat}
theorem C_lines (hN : 70000 < N) (hTb : Tbl ns op re od) (hX : X.length ≤ 4096) {sN0 sT0 : CS} {Q : Int32 → CS × CS × CS × CS × CS × CS × CS × CS × CS → Nat × Nat → Prop} : ∀ (n m : Nat) (ts : List AT) (E : List Ev) (sec ln q : Nat) (K V so va : List Int32) (sF sN sT sP sI : CS), ts.length ≤ n → n < m → lexS X q = ts → WfE X E → Bel E q → nlc X q + 1 = ln → q ≤ X.length → sec < 2 → CSt X ns Y K V so va op re od E sec sF sN sP sI → TPos ns Y sT ts → cI E + ts.length < 4990 → K.length + ts.length ≤ 60000 → TQ sT0 sT → nq sN = nq sN0 → sT0.1 0 = nI (ln - 1 + nE ts) → ln + nE ts < 100000 →
    ((rdAll X n ts sec ln E).1 = 0 → ∀ K' V' so' va' sec' sF' sN' sT' sP' sI', WfE X (rdAll X n ts sec ln E).2.2 → TQ sT0 sT' → nq sN' = nq sN0 → CSt X ns Y K' V' so' va' op re od (rdAll X n ts sec ln E).2.2 sec' sF' sN' sP' sI' → cI (rdAll X n ts sec ln E).2.2 < 4990 → K'.length ≤ 60000 → (∃ ts', TPos ns Y sT' ts') → RC (tp sF' sP' sI' x y) (C_Asm_assemble_78 N 0 sG sR sL sX sE sY sF' sN' sT' sP' sI') Q) →
    ((rdAll X n ts sec ln E).1 ≠ 0 → (rdAll X n ts sec ln E).1 ≤ 15 → ∀ sF' sN' sT' sP' sI', TQ sT0 sT' → nq sN' = nq sN0 → CBd ns Y op re od sF' sN' sT' sP' sI' → RC (tp sF' sP' sI' x y) (C_Asm_assemble_78 N (nI ((rdAll X n ts sec ln E).1 + 16 * (rdAll X n ts sec ln E).2.1)) sG sR sL sX sE sY sF' sN' sT' sP' sI') Q) →
    RC (tp sF sP sI x y) (C_Asm_assemble_37 N m 0 (nI ln) sG sR sL sX sE sY sF sN sT sP sI) Q := by
  intro n
  induction n with
  | zero =>
    intro m ts E sec ln q K V so va sF sN sT sP sI hl _ hlx
    exfalso
    obtain ⟨a, r, e⟩ := lexS_ne X q
    rw [← hlx, e] at hl
    simp at hl
  | succ n ih =>
    intro m ts E sec ln q K V so va sF sN sT sP sI hl hm hlx hW hB hnl hq hsec hS hT hb hk hTQ hcap hT0 hlb good bad
    obtain ⟨m', rfl⟩ : ∃ m', m = m' + 1 := ⟨m - 1, by omega⟩
    have hK := TkF_lex X q
    rw [hlx] at hK
    have hne := nE_pos hK.1
    have hts : 1 ≤ ts.length := by
      obtain ⟨a, r, e⟩ := lexS_ne X q
      rw [← hlx, e]; simp
    obtain ⟨m'', rfl⟩ : ∃ m'', m' = m'' + 1 := ⟨m' - 1, by omega⟩
    rw [C_Asm_assemble_37]
    have hlines : sT.1 0 = nI (ln - 1 + nE ts) := hTQ.2.trans hT0
    refine RC_n ?_ (RC_y rfl ?_)
    · rw [hlines]
      exact fun z => absurd ((nI_ltI (by omega) (by omega)).mp z) (by omega)
    refine RC_then (C_line (x := x) (y := y) (sR := sR) hN hTb hsec hlx hW hB hnl hq hS hT hb hk) (fun v u c hu => ?_)
    obtain ⟨rfl, ⟨rfl, p2, p3, p4⟩, p5⟩ := hu
    have hle := rdLine_le X sec ln ts E
    unfold C_Asm_assemble_72
    rcases p4 with ⟨g1, g2⟩ | ⟨g1, g2, K', V', so', va', g3, g4⟩
    · refine RC_n (fun z => g1 ((fl_nI _ hle).mp z)) ?_
      have hr : rdAll X (n + 1) ts sec ln E = ((rdLine X sec ln ts E).1, ln, E) := by rw [rdAll, if_pos g1]
      rw [hr] at bad
      have hx1 : nI (rdLine X sec ln ts E).1 + 16 * nI ln = nI ((rdLine X sec ln ts E).1 + 16 * ln) := by
        rw [show (16 : Int32) = nI 16 from rfl, pk_mul, nI_add]
      have hb' := bad g1 hle u.1 u.2.1 u.2.2.1 u.2.2.2.1 u.2.2.2.2 (hTQ.tr p2) (p3.trans hcap) g2
      rw [hx1, C_Asm_assemble_37]
      refine RC_if (fun _ => hb') (fun _ => RC_n (fun z => ?_) hb')
      rw [show (0 : Int32) = nI 0 from rfl, nI_eq (by omega) (by omega)] at z
      omega
    · refine RC_y (by rw [g1]; rfl) ?_
      rw [show nI ln + 1 = nI (ln + 1) from nI_add ln 1]
      have hw0 := rdLab_wf hsec ts.length ts E q hlx hW hB hnl hq
      have hk2 : ∀ a, (rdLab X sec ln ts.length ts E).2.1 = some a → a.k = 2 := by
        intro a ha
        have hz : (rdLab X sec ln ts.length ts E).1 = 0 := by
          unfold rdLine at g1
          by_cases z : (rdLab X sec ln ts.length ts E).1 = 0
          · exact z
          · rw [if_pos z] at g1; exact g1
        exact ((hw0 hz).2.1 a ha).1
      have hsuf := rdLine_suf hsec hk2 g1
      have hnEs := nE_suf hsuf
      have key : WfE X (rdLine X sec ln ts E).2.1 ∧ (rdLine X sec ln ts E).2.2.1 < 2 ∧ ∃ q2, lexS X q2 = (rdLine X sec ln ts E).2.2.2 ∧ atE (rdLine X sec ln ts E).2.2.2 = true ∧ Bel (rdLine X sec ln ts E).2.1 q2 ∧ q ≤ q2 ∧ q2 ≤ X.length ∧ lend (tw X) X.length q2 = lend (tw X) X.length q := by
        have hf0 := g1
        unfold rdLine at hf0 ⊢
        by_cases hz : (rdLab X sec ln ts.length ts E).1 ≠ 0
        · rw [if_pos hz] at hf0; exact absurd hf0 hz
        rw [if_neg hz] at hf0 ⊢
        obtain ⟨w1, w2, w3⟩ := hw0 (Decidable.not_not.mp hz)
        generalize rdLab X sec ln ts.length ts E = t at *
        cases hm : t.2.1 with
        | none =>
          simp only [Option.elim_none]
          obtain ⟨q2, j1, j2, j3, j4, j5, j6⟩ := w3 hm
          exact ⟨w1, hsec, q2, j1, j2, j3, j4, j5, j6⟩
        | some a =>
          rw [hm] at hf0
          simp only [Option.elim_some] at hf0 ⊢
          obtain ⟨j1, j2, j3, j4, j5⟩ := w2 a hm
          have hpn : nlc X a.p + 1 = ln := by rw [nlc_line (q := q) j4 (by rw [← j5]; exact lend_ge _ _ _)]; exact hnl
          obtain ⟨i1, i2, q2, i3, i4, i5, i6, i7, i8⟩ := rdSt_wf hsec j2 j1 w1 j3 hpn hf0
          exact ⟨i1, i2, q2, i3, i4, i5, by omega, i7, i8.trans j5⟩
      obtain ⟨k1, k2, q2, k3, k4, k5, k6, k7, k8⟩ := key
      have p5' := p5 g1
      have hrA : rdAll X (n + 1) ts sec ln E = if (rdLine X sec ln ts E).2.2.2.tail = [] then (0, ln, (rdLine X sec ln ts E).2.1) else rdAll X n (rdLine X sec ln ts E).2.2.2.tail (rdLine X sec ln ts E).2.2.1 (ln + 1) (rdLine X sec ln ts E).2.1 := by
        rw [rdAll, if_neg (fun z => z g1)]
      have hrl0 := hsuf.len
      generalize rdLine X sec ln ts E = t at *
      obtain ⟨a0, r0, er⟩ := lexS_ne X q2
      have er2 : t.2.2.2 = a0 :: r0 := k3.symm.trans er
      have hk0 : a0.k = 0 := by rw [er2] at k4; exact of_decide_eq_true k4
      have etl : t.2.2.2.tail = r0 := by rw [er2]; rfl
      rw [etl] at g2 hrA
      rw [er2, nE_cons, if_pos hk0] at hnEs
      rw [er2] at g4 p5' hrl0
      simp only [List.length_cons] at g4 p5' hrl0
      by_cases ht : r0 = []
      · rw [if_pos ht] at hrA
        rw [hrA] at good
        rw [C_Asm_assemble_37]
        rw [ht] at hnEs g2
        have hz0 : nE ([] : List AT) = 0 := rfl
        rw [hz0] at hnEs
        refine RC_y ?_ (good rfl K' V' so' va' t.2.2.1 u.1 u.2.1 u.2.2.1 u.2.2.2.1 u.2.2.2.2 k1 (hTQ.tr p2) (p3.trans hcap) g3 (by simp only []; omega) (by omega) ⟨_, g2⟩)
        rw [(hTQ.tr p2).2, hT0, hnEs]
        exact (nI_ltI (by omega) (by omega)).mpr (by omega)
      · rw [if_neg ht] at hrA
        rw [hrA] at good bad
        have hl2 : lexS X (skipB (tw X) X.length q2) = a0 :: r0 := by rw [← lexS_skip]; exact er
        obtain ⟨n1, n2, n3⟩ := end_nl hl2 hk0 (skipB_id _ _ _).symm (skipB_le _ _ _ k7)
        rw [lend_skip] at n1 n2 n3
        have hle2 := lend_le (tw X) X.length q2 k7
        have hlt : lend (tw X) X.length q2 < X.length := by
          rcases Nat.lt_or_ge (lend (tw X) X.length q2) X.length with z | z
          · exact z
          · exact absurd (n1 (by omega)) ht
        have e2 := n2 hlt
        have hge := lend_ge (tw X) X.length q2
        refine ih (m'' + 1) r0 t.2.1 t.2.2.1 (ln + 1) (lend (tw X) X.length q2 + 1) K' V' so' va' u.1 u.2.1 u.2.2.1 u.2.2.2.1 u.2.2.2.2 (by omega) (by omega) e2.symm k1 (k5.le (by omega)) ?_ (by omega) k2 g3 g2 (by omega) (by omega) (hTQ.tr p2) (p3.trans hcap) ?_ (by omega) good bad
        · rw [nlc_next k7 hlt, nlc_line k6 (by rw [← k8]; exact hge)]
          omega
        · rw [hT0]
          congr 1
          omega
end
