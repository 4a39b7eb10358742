/-! ===== the class's encodeAll() ===== -/
def secT (g : Sz → Ev → List Int32) (b : Nat) : Sz → List Ev → List Int32
  | _, [] => []
  | s, e :: r => (if e.1 = 5 ∧ (e.2.2.2.1 = 1 ↔ b = 1) then g s e else []) ++ secT g b (stepE s e) r
theorem secT_app (g : Sz → Ev → List Int32) (b : Nat) : ∀ (A B : List Ev) (s : Sz), secT g b s (A ++ B) = secT g b s A ++ secT g b (lay s A) B
  | [], B, s => rfl
  | e :: A, B, s => by
    rw [List.cons_append, secT, secT, secT_app g b A B, List.append_assoc]
    rfl
theorem secT_snoc (g : Sz → Ev → List Int32) (b : Nat) (A : List Ev) (e : Ev) (s : Sz) : secT g b s (A ++ [e]) = secT g b s A ++ (if e.1 = 5 ∧ (e.2.2.2.1 = 1 ↔ b = 1) then g (lay s A) e else []) := by
  rw [secT_app]
  congr 1
  show _ ++ [] = _
  rw [List.append_nil]
def GOK (E : List Ev) (g : Sz → Ev → List Int32) : Prop := ∀ E1 e E2, E = E1 ++ e :: E2 → e.1 = 5 → (g (lay (0, 0) E1) e).length = szL (offS (lay (0, 0) E1) e.2.2.2.1) e.2.2.2.2.2
theorem lay_snoc (s : Sz) (A : List Ev) (e : Ev) : lay s (A ++ [e]) = stepE (lay s A) e := by rw [lay_app]; rfl
theorem secT_len {X : List Int32} {E : List Ev} (hW : WfE X E) {g : Sz → Ev → List Int32} (hg : GOK E g) : ∀ (n : Nat) (E1 E2 : List Ev), E1.length = n → E = E1 ++ E2 → (secT g 0 (0, 0) E1).length = (lay (0, 0) E1).1 ∧ (secT g 1 (0, 0) E1).length = (lay (0, 0) E1).2 := by
  intro n
  induction n with
  | zero =>
    intro E1 E2 h _
    rw [List.length_eq_zero_iff.mp h]
    exact ⟨rfl, rfl⟩
  | succ n ih =>
    intro E1 E2 h hE
    rcases List.eq_nil_or_concat E1 with rfl | ⟨A, e, rfl⟩
    · simp at h
    · rw [List.concat_eq_append] at h hE ⊢
      have hE' : E = A ++ e :: E2 := by rw [hE]; simp
      obtain ⟨i1, i2⟩ := ih A (e :: E2) (by simp at h; exact h) hE'
      rw [secT_snoc, secT_snoc, lay_snoc, List.length_append, List.length_append, i1, i2]
      by_cases h5 : e.1 = 5
      · have hl := hg A e E2 hE' h5
        unfold stepE
        by_cases hs : e.2.2.2.1 = 1
        · have o1 : offS (lay (0, 0) A) e.2.2.2.1 = (lay (0, 0) A).2 := by unfold offS; rw [if_pos hs]
          rw [o1] at hl
          have n0 : ¬ (e.1 = 5 ∧ (e.2.2.2.1 = 1 ↔ (0 : Nat) = 1)) := by simp [hs]
          have n1 : e.1 = 5 ∧ (e.2.2.2.1 = 1 ↔ (1 : Nat) = 1) := ⟨h5, by simp [hs]⟩
          rw [if_neg n0, if_pos n1, if_pos hs, hl]
          exact ⟨rfl, rfl⟩
        · have o1 : offS (lay (0, 0) A) e.2.2.2.1 = (lay (0, 0) A).1 := by unfold offS; rw [if_neg hs]
          rw [o1] at hl
          have n0 : e.1 = 5 ∧ (e.2.2.2.1 = 1 ↔ (0 : Nat) = 1) := ⟨h5, by simp [hs]⟩
          have n1 : ¬ (e.1 = 5 ∧ (e.2.2.2.1 = 1 ↔ (1 : Nat) = 1)) := by simp [hs]
          rw [if_pos n0, if_neg n1, if_neg hs, hl]
          exact ⟨rfl, rfl⟩
      · rw [if_neg (fun z => h5 z.1), if_neg (fun z => h5 z.1)]
        unfold stepE
        rw [hW.its e (by rw [hE']; simp) h5]
        split <;> exact ⟨rfl, rfl⟩
theorem C_fillZ {N : Nat} (hN : 70000 < N) {σ : CS} {l : List Int32} (h : RowL σ l) (z v : Int32) : ∃ σ', C_Row_fill N z z v σ = some (0, σ') ∧ RowL σ' l ∧ σ'.2.2 = σ.2.2 := by
  by_cases hz : z < 0
  · unfold C_Row_fill C_Row_fill_27
    rw [if_pos hz]
    exact ⟨σ, rfl, h, rfl⟩
  · have e : nI z.toNatClampNeg = z := nI_c hz
    have hlt : z.toNatClampNeg < 2 ^ 31 := by
      have := Int32.toInt_lt z
      have h1 : z.toNatClampNeg = z.toInt.toNat := rfl
      omega
    rw [← e]
    by_cases hal : z.toNatClampNeg ≤ l.length
    · obtain ⟨σ', q1, q2, q3⟩ := C_rowfill hN h (a := z.toNatClampNeg) (len := 0) (by omega) (by omega) v
      exact ⟨σ', q1, q2, q3⟩
    · have hb := h.big
      have hc := h.cap
      unfold C_Row_fill C_Row_fill_27
      rw [if_neg (nI_pos hlt), if_neg (fun z => Int32.lt_irrefl z), h.cnt, if_pos ((nI_ltI (by omega) hlt).mpr (by omega))]
      exact ⟨σ, rfl, h, rfl⟩
section
variable {N : Nat} {X : List Int32} {ns : List (List Int32)} {Y K V so va op re od : List Int32} {sP sI sE sE0 sY sN sT sF : CS} {E : List Ev} {x y : Nat} {S : List Int32}
theorem C_slotH (hN : 70000 < N) (h : PRG X ns Y K V so va E sP sI) {k : Nat} (hk : k < cI E) {sec : Nat} {w : Int32} (hP : PlI sI k sec w) {l l1 : List Int32} (hS : ES sE0 sE l l1) {m : Nat} {Q : Int32 → CS × CS → Nat × Nat → Prop} (good : ∀ sE', ES sE0 sE' l l1 → RC (fp sF x y) (C_Enc_encodeAll_30 N m (nI (k + 1)) sE' sY sF sN sT sP sI) Q) : RC (fp sF x y) (C_Enc_encodeAll_30 N (m + 1) (nI k) sE sY sF sN sT sP sI) Q := by
  obtain ⟨hX, hW, hNm, hPr, hL, hc, hPl⟩ := h
  obtain ⟨r0, r1, r2, r3⟩ := hS
  have hL5 := hL.2.2.1
  have hLc := hL.1
  obtain ⟨f1, f2⟩ := C_find hc hL (nI k)
  rw [fnI_nI hk (by omega)] at f1 f2
  have hadr : C_Prg_addressOf (nI k) sP sI = some (adrC sP sI (cI E) (nI k)) := C_addr hc hL _
  generalize adrC sP sI (cI E) (nI k) = z at hadr
  rw [C_Enc_encodeAll_30]
  refine RC_n (by rw [hc]; exact fun z => absurd ((nI_leI (by omega) (by omega)).mp z) (by omega)) (RC_cr f1 (RC_cr hadr (RC_gd (decide_eq_true f2) (RC_gd (decide_eq_true f2) ?_))))
  rw [hP.2.2.1, Int32.add_zero]
  obtain ⟨u, q1, q2, q3⟩ := C_fillZ hN r1 z (sI.2.1 (k + 1) 0)
  refine RC_cl q1 (RC_bnd ?_)
  have henc : C_Enc_encode N (k + 1) z (rs sE 1 u) sY sF sN sT sP sI = some ((0, (rs sE 1 u, sF)), (0, 0)) := by
    unfold C_Enc_encode C_Enc_encode_40
    rw [gd_t (decide_eq_true f2), hP.2.1, if_neg (by decide), if_pos rfl]
  rw [henc]
  have hgo := good (rs sE 1 u) ⟨by rw [rg_rs (by decide)]; exact r0, RowL_rs q2, by rw [rs_num (by decide)]; exact r2, by rw [rs_caps q3]; exact r3⟩
  have : RC (fp sF x y) (some (((0 : Int32), (rs sE 1 u, sF)), (0, 0))) (fun v w c => v = 0 ∧ w = (rs sE 1 u, sF) ∧ c = fp sF x y) := RC_ret ⟨rfl, rfl, rfl⟩
  refine RC_then this (fun v w c hw => ?_)
  obtain ⟨rfl, rfl, rfl⟩ := hw
  refine RC_y rfl ?_
  rw [show nI k + 1 = nI (k + 1) from nI_add k 1]
  exact hgo
theorem GOK_eb (hX : X.length ≤ 4096) (hW : WfE X E) : GOK E (ebE X E) := fun E1 e E2 hE h5 => eb_len hX hW hE h5 _
theorem GOK_el (E : List Ev) : GOK E elE := fun E1 e E2 hE h5 => by unfold elE; rw [List.length_replicate]
theorem C_encE (hN : 70000 < N) (h : PRG X ns Y K V so va E sP sI) (hV : ∀ c ∈ X, okT c) (hNL : NmS sN ns so va op re od) (h20 : sP.2.2 20 = 10) (hK : K.length ≤ 60000) (hY : RowL sY Y) {Q : Int32 → CS × CS → Nat × Nat → Prop} :
    ∀ (E2 E1 : List Ev) (m : Nat) (l l1 Z : List Int32) (sE sF : CS), E = E1 ++ E2 → (E2.map nit).sum < m → ES sE0 sE l l1 → FR4 sF K V S Z → TPr l (allN E) (bsE E) (secT (ebE X E) 0 (0, 0) E1) (secT (ebE X E) 1 (0, 0) E1) → TPr l1 (allN E) (bsE E) (secT elE 0 (0, 0) E1) (secT elE 1 (0, 0) E1) →
    (ckE X E (lay (0, 0) E1) E2 = 0 → ∀ sE' sF' Z' l' l1', ES sE0 sE' l' l1' → FR4 sF' K V S Z' → TPr l' (allN E) (bsE E) (secT (ebE X E) 0 (0, 0) E) (secT (ebE X E) 1 (0, 0) E) → TPr l1' (allN E) (bsE E) (secT elE 0 (0, 0) E) (secT elE 1 (0, 0) E) → Q 0 (sE', sF') (fp sF' x y)) →
    (ckE X E (lay (0, 0) E1) E2 ≠ 0 → ∀ sE' sF', (∃ l l1, ES sE0 sE' l l1) → FVal sF' → Q (nI (ckE X E (lay (0, 0) E1) E2)) (sE', sF') (fp sF' x y)) →
    RC (fp sF x y) (C_Enc_encodeAll_30 N m (nI (cI E1)) sE sY sF sN sT sP sI) Q := by
  have h' := h
  obtain ⟨hX, hW, hNm, hPr, hL, hc, hPl⟩ := h
  intro E2
  induction E2 with
  | nil =>
    intro E1 m l l1 Z sE sF hE hm hS hF hT hT1 good _
    rw [List.append_nil] at hE
    obtain ⟨m', rfl⟩ : ∃ m', m = m' + 1 := ⟨m - 1, by omega⟩
    rw [← hE] at hT hT1 ⊢
    rw [C_Enc_encodeAll_30]
    exact RC_y (by rw [hc]; exact Int32.le_refl _) (RC_ret (good rfl sE sF Z l l1 hS hF hT hT1))
  | cons e E2 ih =>
    intro E1 m l l1 Z sE sF hE hm hS hF hT hT1 good bad
    have hE' : E = (E1 ++ [e]) ++ E2 := by rw [hE]; simp
    have hcs := cI_split hE
    rw [List.map_cons, List.sum_cons] at hm
    have hgb := GOK_eb hX hW
    obtain ⟨t1, t2⟩ := secT_len hW hgb _ E1 (e :: E2) rfl hE
    obtain ⟨t3, t4⟩ := secT_len hW (GOK_el E) _ E1 (e :: E2) rfl hE
    by_cases h5 : e.1 = 5
    · rw [nit_5 h5] at hm
      have hck : ckE X E (lay (0, 0) E1) (e :: E2) = if ckB (ηE X E (lay (0, 0) E1) e) (aE E (lay (0, 0) E1) e) e.2.2.2.2.2 ≠ 0 then ckB (ηE X E (lay (0, 0) E1) e) (aE E (lay (0, 0) E1) e) e.2.2.2.2.2 + 16 * e.2.2.1 else ckE X E (lay (0, 0) (E1 ++ [e])) E2 := by
        rw [ckE, lay_snoc]
        by_cases hz : ckB (ηE X E (lay (0, 0) E1) e) (aE E (lay (0, 0) E1) e) e.2.2.2.2.2 = 0
        · rw [if_neg (fun z => z.2 hz), if_neg (fun z => z hz)]
        · rw [if_pos ⟨h5, hz⟩, if_pos hz]
      have h0 : ∀ (l : List Int32) (tx dt : List Int32), TPr l (allN E) (bsE E) tx dt → TP2 l (allN E) (bsE E) e.2.2.2.1 tx dt [] := by
        intro l tx dt hh
        unfold TP2
        rw [List.append_nil, List.append_nil]
        split <;> exact hh
      have h9 : ∀ (g : Sz → Ev → List Int32) (l : List Int32), TP2 l (allN E) (bsE E) e.2.2.2.1 (secT g 0 (0, 0) E1) (secT g 1 (0, 0) E1) (g (lay (0, 0) E1) e) → TPr l (allN E) (bsE E) (secT g 0 (0, 0) (E1 ++ [e])) (secT g 1 (0, 0) (E1 ++ [e])) := by
        intro g l hh
        unfold TP2 at hh
        rw [secT_snoc, secT_snoc]
        by_cases hs : e.2.2.2.1 = 1
        · rw [if_pos hs] at hh
          rw [if_neg (by simp [hs]), if_pos ⟨h5, by simp [hs]⟩, List.append_nil]
          exact hh
        · rw [if_neg hs] at hh
          rw [if_pos ⟨h5, by simp [hs]⟩, if_neg (by simp [hs]), List.append_nil]
          exact hh
      rw [← Nat.add_zero (cI E1)]
      refine C_encEv hN h' hV hNL h20 hK hY hE h5 t1 t2 t3 t4 e.2.2.2.2.2.length 0 m l l1 Z sE sF (by omega) (by omega) hS hF (h0 l _ _ hT) (h0 l1 _ _ hT1) (fun hz sE' sF' Z' l' l1' hS' hF' hT' hT1' => ?_) (fun hz sE' sF' hS' hF' => ?_)
      · rw [List.drop_zero] at hz
        rw [hck, if_neg (fun z => z hz)] at good bad
        have hci : cI (E1 ++ [e]) = cI E1 + e.2.2.2.2.2.length := by rw [cI_snoc, nit_5 h5]
        rw [← hci]
        exact ih (E1 ++ [e]) _ l' l1' Z' sE' sF' hE' (by omega) hS' hF' (h9 _ _ hT') (h9 _ _ hT1') good bad
      · rw [List.drop_zero] at hz ⊢
        rw [hck, if_pos hz] at bad
        have hle := ckB_le (ηE X E (lay (0, 0) E1) e) (aE E (lay (0, 0) E1) e) e.2.2.2.2.2
        exact bad (by omega) sE' sF' hS' hF'
    · have hck : ckE X E (lay (0, 0) E1) (e :: E2) = ckE X E (lay (0, 0) (E1 ++ [e])) E2 := by
        rw [ckE, lay_snoc, if_neg (fun z => h5 z.1)]
      rw [hck] at good bad
      have hsn : ∀ (g : Sz → Ev → List Int32) (b : Nat), secT g b (0, 0) (E1 ++ [e]) = secT g b (0, 0) E1 := by
        intro g b
        rw [secT_snoc, if_neg (fun z => h5 z.1), List.append_nil]
      rw [← hsn (ebE X E) 0, ← hsn (ebE X E) 1] at hT
      rw [← hsn elE 0, ← hsn elE 1] at hT1
      by_cases h2 : e.1 = 2
      · have hci : cI (E1 ++ [e]) = cI E1 := by rw [cI_snoc, nit_2 h2]; rfl
        rw [← hci]
        exact ih (E1 ++ [e]) m l l1 Z sE sF hE' (by omega) hS hF hT hT1 good bad
      · have hnit : nit e = 1 := by unfold nit; rw [if_neg h2, if_neg h5]
        obtain ⟨m', rfl⟩ : ∃ m', m = m' + 1 := ⟨m - 1, by omega⟩
        have hkd := (hW E1 e E2 hE).kd.1
        obtain ⟨sec, w, hPI⟩ : ∃ sec w, PlI sI (cI E1) sec w := by
          by_cases h34 : e.1 = 3 ∨ e.1 = 4
          · exact ⟨_, _, (hPr.2 E1 e E2 hE).2.2 h34⟩
          · obtain ⟨i, -, -, i3⟩ := (hPr.2 E1 e E2 hE).2.1 (by clear hPr; omega)
            exact ⟨_, _, i3⟩
        refine C_slotH hN h' (by omega) hPI hS (fun sE' hS' => ?_)
        have hci : cI (E1 ++ [e]) = cI E1 + 1 := by rw [cI_snoc, hnit]
        rw [← hci]
        exact ih (E1 ++ [e]) m' l l1 Z sE' sF hE' (by omega) hS' hF hT hT1 good bad
theorem C_heads (hN : 70000 < N) (h : PRG X ns Y K V so va E sP sI) {l l1 : List Int32} {m : Nat} {Q : Int32 → CS × CS → Nat × Nat → Prop} (good : ∀ sE', ES sE0 sE' l l1 → RC (fp sF x y) (C_Enc_encodeAll_30 N m (nI 10) sE' sY sF sN sT sP sI) Q) : ∀ (n k : Nat) (sE : CS), k + n = 10 → ES sE0 sE l l1 → RC (fp sF x y) (C_Enc_encodeAll_30 N (m + n) (nI k) sE sY sF sN sT sP sI) Q := by
  intro n
  induction n with
  | zero => intro k sE hk hS; rw [show k = 10 by omega]; exact good sE hS
  | succ n ih =>
    intro k sE hk hS
    have hge := cI_ge E
    exact C_slotH (m := m + n) hN h (by omega) (h.2.2.2.1.1 k (by omega)) hS (fun sE' hS' => ih (k + 1) sE' (by omega) hS')
theorem C_end (hX : X.length ≤ 4096) (hW : WfE X E) (hPl : PlL E sP sI) : C_Prg_end sP sI = some (nI (allN E)) := by
  have hla := lay_all hX hW
  have hb := base_ge (lay (0, 0) E).1
  unfold C_Prg_end C_Prg_end_23 allN
  rw [hPl.1, hPl.2.1, hPl.2.2.1]
  by_cases hz : (lay (0, 0) E).2 = 0
  · rw [if_pos hz, hz, if_pos (by decide)]
  · rw [if_neg hz, if_neg (fun z => hz (by have := (nI_leI (b := 0) (by omega) (by omega)).mp z; omega)), nI_add]
theorem C_encodeAll (hN : 70000 < N) (h : PRG X ns Y K V so va E sP sI) (hV : ∀ c ∈ X, okT c) (hNL : NmS sN ns so va op re od) (h20 : sP.2.2 20 = 10) (hK : K.length ≤ 60000) (hY : RowL sY Y) {Z : List Int32} (hF : FR4 sF K V S Z) (hall : allN E ≤ 32768) {i0 i1 : List Int32} (hi0 : RowL (rg sE 0) i0) (hi1 : RowL (rg sE 1) i1) (c0 : 64 ≤ sE.2.2 0) (c1 : 64 ≤ sE.2.2 1) :
    RC (2 * capF sF + (2 * sE.2.2 0 + 2 * sE.2.2 1) + x, capF sF + (sE.2.2 0 + sE.2.2 1) + y) (C_Enc_encodeAll N sE sY sF sN sT sP sI) (fun v u c => c = (2 * capF u.2 + (2 * u.1.2.2 0 + 2 * u.1.2.2 1) + x, capF u.2 + (u.1.2.2 0 + u.1.2.2 1) + y) ∧ v = nI (ckE X E (0, 0) E) ∧ FVal u.2 ∧ u.1.1 0 = sE.1 0 ∧ 64 ≤ u.1.2.2 0 ∧ 64 ≤ u.1.2.2 1 ∧ ∃ l l1, RowL (rg u.1 0) l ∧ RowL (rg u.1 1) l1 ∧ (ckE X E (0, 0) E = 0 → TPr l (allN E) (bsE E) (secT (ebE X E) 0 (0, 0) E) (secT (ebE X E) 1 (0, 0) E) ∧ TPr l1 (allN E) (bsE E) (secT elE 0 (0, 0) E) (secT elE 1 (0, 0) E))) := by
  have h' := h
  obtain ⟨hX, hW, hNm, hPr, hL, hc, hPl⟩ := h
  have hend := C_end hX hW hPl
  unfold C_Enc_encodeAll
  refine RC_cr hend ?_
  have e0 : (2 * capF sF + (2 * sE.2.2 0 + 2 * sE.2.2 1) + x, capF sF + (sE.2.2 0 + sE.2.2 1) + y) = (2 * (rg sE 0).2.2 0 + (2 * capF sF + 2 * sE.2.2 1 + x), (rg sE 0).2.2 0 + (capF sF + sE.2.2 1 + y)) := Prod.ext (by show _ = 2 * sE.2.2 0 + _; simp only []; omega) (by show _ = sE.2.2 0 + _; simp only []; omega)
  rw [e0]
  refine RC_then (C_rowzero hN hi0 hall (show 64 ≤ (rg sE 0).2.2 0 from c0) _ _) (fun v u c hu => ?_)
  obtain ⟨u1, rfl, u3⟩ := hu
  refine RC_bnd (RC_cr hend ?_)
  have hr1 : RowL (rg (rs sE 0 u) 1) i1 := by rw [rg_rs (by decide)]; exact hi1
  have hcap1 : (rg (rs sE 0 u) 1).2.2 0 = sE.2.2 1 := by rw [rg_rs (by decide)]; rfl
  have e1 : (2 * u.2.2 0 + (2 * capF sF + 2 * sE.2.2 1 + x), u.2.2 0 + (capF sF + sE.2.2 1 + y)) = (2 * (rg (rs sE 0 u) 1).2.2 0 + (2 * capF sF + 2 * u.2.2 0 + x), (rg (rs sE 0 u) 1).2.2 0 + (capF sF + u.2.2 0 + y)) := Prod.ext (by rw [hcap1]; simp only []; omega) (by rw [hcap1]; simp only []; omega)
  rw [e1]
  refine RC_then (C_rowzero hN hr1 hall (by rw [hcap1]; exact c1) _ _) (fun v2 w c2 hw => ?_)
  obtain ⟨w1, rfl, w3⟩ := hw
  refine RC_bnd ?_
  have hES : ES (rs (rs sE 0 u) 1 w) (rs (rs sE 0 u) 1 w) (List.replicate (allN E) 0) (List.replicate (allN E) 0) := ⟨by rw [rg_rs (by decide)]; exact RowL_rs u1, RowL_rs w1, rfl, rfl⟩
  have hcE0 : (rs (rs sE 0 u) 1 w).2.2 0 = u.2.2 0 := rfl
  have hcE1 : (rs (rs sE 0 u) 1 w).2.2 1 = w.2.2 0 := rfl
  have e2 : (2 * w.2.2 0 + (2 * capF sF + 2 * u.2.2 0 + x), w.2.2 0 + (capF sF + u.2.2 0 + y)) = fp sF (2 * u.2.2 0 + 2 * w.2.2 0 + x) (u.2.2 0 + w.2.2 0 + y) := Prod.ext (by simp only []; omega) (by simp only []; omega)
  rw [e2]
  have hz : TPr (List.replicate (allN E) 0) (allN E) (bsE E) [] [] := by
    refine ⟨by rw [List.length_replicate], fun p hp => ?_⟩
    rw [rep_getD]
    split <;> rfl
  obtain ⟨m, hm⟩ : ∃ m, N = m + 10 := ⟨N - 10, by omega⟩
  have hL5 := hL.2.2.1
  have hLc := hL.1
  have hgo := C_heads (x := 2 * u.2.2 0 + 2 * w.2.2 0 + x) (y := u.2.2 0 + w.2.2 0 + y) (sY := sY) (sN := sN) (sT := sT) (sF := sF) (sE0 := rs (rs sE 0 u) 1 w) (l := List.replicate (allN E) 0) (l1 := List.replicate (allN E) 0) (m := m) hN h' (Q := fun v u' c => c = (2 * capF u'.2 + (2 * u'.1.2.2 0 + 2 * u'.1.2.2 1) + x, capF u'.2 + (u'.1.2.2 0 + u'.1.2.2 1) + y) ∧ v = nI (ckE X E (0, 0) E) ∧ FVal u'.2 ∧ u'.1.1 0 = sE.1 0 ∧ 64 ≤ u'.1.2.2 0 ∧ 64 ≤ u'.1.2.2 1 ∧ ∃ l l1, RowL (rg u'.1 0) l ∧ RowL (rg u'.1 1) l1 ∧ (ckE X E (0, 0) E = 0 → TPr l (allN E) (bsE E) (secT (ebE X E) 0 (0, 0) E) (secT (ebE X E) 1 (0, 0) E) ∧ TPr l1 (allN E) (bsE E) (secT elE 0 (0, 0) E) (secT elE 1 (0, 0) E))) (fun sE' hS' => C_encE (S := S) hN h' hV hNL h20 hK hY E [] m _ _ Z sE' sF rfl (by unfold cI at hLc; omega) hS' hF hz hz (fun hck sE2 sF2 Z2 l2 l3 hS2 hF2 hT2 hT3 => ?_) (fun hck sE2 sF2 hS2 hF2 => ?_)) 10 0 (rs (rs sE 0 u) 1 w) (by omega) hES
  · rw [← hm] at hgo
    exact hgo
  · obtain ⟨s1, s2, s3, s4⟩ := hS2
    refine ⟨?_, ?_, ⟨_, _, _, _, hF2⟩, ?_, ?_, ?_, l2, l3, s1, s2, fun _ => ⟨hT2, hT3⟩⟩
    · rw [s4, hcE0, hcE1]; exact Prod.ext (by simp only []; omega) (by simp only []; omega)
    · rw [show ckE X E (0, 0) E = 0 from hck]; rfl
    · rw [s3, rs_num (by decide), rs_num (by decide)]
    · rw [s4, hcE0]; exact u3
    · rw [s4, hcE1]; exact w3
  · obtain ⟨l2, l3, s1, s2, s3, s4⟩ := hS2
    refine ⟨?_, rfl, hF2, ?_, ?_, ?_, l2, l3, s1, s2, fun z => absurd z hck⟩
    · rw [s4, hcE0, hcE1]; exact Prod.ext (by simp only []; omega) (by simp only []; omega)
    · rw [s3, rs_num (by decide), rs_num (by decide)]
    · rw [s4, hcE0]; exact u3
    · rw [s4, hcE1]; exact w3
end
