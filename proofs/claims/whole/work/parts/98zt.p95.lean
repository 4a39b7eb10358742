/-! ===== rows are filled and made zero; a slot is encoded ===== -/
theorem C_rowfill {N : Nat} (hN : 70000 < N) {σ : CS} {l : List Int32} (h : RowL σ l) {a len : Nat} (hl : len < 70000) (ha : a + len ≤ l.length) (v : Int32) : ∃ σ', C_Row_fill N (nI a) (nI (a + len)) v σ = some (0, σ') ∧ RowL σ' (wr l a (List.replicate len v)) ∧ σ'.2.2 = σ.2.2 := by
  have hb := h.big
  have hc := h.cap
  unfold C_Row_fill C_Row_fill_27 C_Arr_fill C_Arr_rangeCheck
  rw [if_neg (nI_pos (by omega)), if_neg (fun z => absurd ((nI_ltI (by omega) (by omega)).mp z) (by omega)), h.cnt, if_neg (fun z => absurd ((nI_ltI (by omega) (by omega)).mp z) (by omega))]
  rw [if_pos ((nI_leI (by omega) (by omega)).mpr (by omega)), if_pos (show (0 : Int32) ≤ nI a from (nI_leI (a := 0) (by omega) (by omega)).mpr (by omega)), if_pos (show nI (a + len) ≤ nI ((ag σ 0).2.2 0) from (nI_leI (by omega) (show σ.2.2 0 < 2 ^ 31 by omega)).mpr (show a + len ≤ σ.2.2 0 by omega))]
  obtain ⟨s', q1, q2, q3, q4⟩ := C_fill10 (N := N) v (to := a + len) (by omega) len a N (ag σ 0) rfl (by omega) (show a + len ≤ σ.2.2 0 by omega)
  simp only [cr, Option.bind_some]
  rw [q1]
  simp only [cl, bnd, Option.bind_some]
  have hcaps : (aset σ 0 s').2.2 = σ.2.2 := by
    funext q
    unfold aset
    simp only []
    split
    · rename_i hq; rw [hq, q2]; rfl
    · rfl
  refine ⟨_, rfl, ⟨?_, ?_, ?_, ?_⟩, hcaps⟩
  · rw [wr_len]; exact h.cnt
  · rw [wr_len, hcaps]; exact hc
  · rw [hcaps]; exact hb
  · intro p hp
    rw [wr_len] at hp
    rw [wr_at _ _ _ _ hp, List.length_replicate]
    show s'.2.1 0 p = _
    rw [q4 p]
    by_cases hz : a ≤ p ∧ p < a + len
    · rw [if_pos hz, if_pos hz, gD_e (by rw [List.length_replicate]; omega), List.getElem_replicate]
    · rw [if_neg hz, if_neg hz]
      exact h.val p hp
theorem C_rowfill0 {N : Nat} (hN : 70000 < N) {σ : CS} {l : List Int32} (h : RowL σ l) {a : Nat} (ha : a < 2 ^ 30) (v : Int32) : ∃ σ', C_Row_fill N (nI a) (nI a) v σ = some (0, σ') ∧ RowL σ' l ∧ σ'.2.2 = σ.2.2 := by
  by_cases hal : a ≤ l.length
  · obtain ⟨σ', q1, q2, q3⟩ := C_rowfill hN h (a := a) (len := 0) (by omega) (by omega) v
    exact ⟨σ', q1, q2, q3⟩
  · have hb := h.big
    have hc := h.cap
    unfold C_Row_fill C_Row_fill_27
    rw [if_neg (nI_pos (by omega)), if_neg (fun z => Int32.lt_irrefl z), h.cnt, if_pos ((nI_ltI (by omega) (by omega)).mpr (by omega))]
    exact ⟨σ, rfl, h, rfl⟩
theorem C_rowzero {N : Nat} (hN : 70000 < N) {σ : CS} {l : List Int32} (h : RowL σ l) {n : Nat} (hn : n ≤ 32768) (h64 : 64 ≤ σ.2.2 0) (x y : Nat) : RC (2 * σ.2.2 0 + x, σ.2.2 0 + y) (C_Row_zero N (nI n) σ) (fun _ u c => RowL u (List.replicate n 0) ∧ c = (2 * u.2.2 0 + x, u.2.2 0 + y) ∧ 64 ≤ u.2.2 0) := by
  have hb := h.big
  have core : ∀ τ : CS, n ≤ τ.2.2 0 → τ.2.2 0 ≤ 140000 → ∃ u, C_Row_zero_26 N (nI n) τ = some ((0, u), (0, 0)) ∧ RowL u (List.replicate n 0) ∧ u.2.2 0 = τ.2.2 0 := by
    intro τ h1 h2
    unfold C_Row_zero_26
    have hmax : jmax (nI n) 0 = nI n := by
      unfold jmax
      rw [if_neg (nI_pos (by omega))]
    rw [hmax]
    simp only [bnd]
    rw [cF_at]
    unfold C_Arr_fill C_Arr_rangeCheck
    rw [if_pos (show (0 : Int32) ≤ nI n from (nI_leI (a := 0) (by omega) (by omega)).mpr (by omega)), if_pos (by decide), if_pos (show nI n ≤ nI ((ag (cF τ 0 (nI n)) 0).2.2 0) from (nI_leI (by omega) (show τ.2.2 0 < 2 ^ 31 by omega)).mpr h1)]
    obtain ⟨s', q1, q2, q3, q4⟩ := C_fill10 (N := N) 0 (to := n) (by omega) n 0 N (ag (cF τ 0 (nI n)) 0) (by omega) (by omega) h1
    simp only [cr, Option.bind_some]
    rw [show (0 : Int32) = nI 0 from rfl] at q1 ⊢
    rw [q1]
    simp only [cl, Option.bind_some]
    have hcap : (aset (cF τ 0 (nI n)) 0 s').2.2 0 = τ.2.2 0 := by
      show s'.2.2 0 = _
      rw [q2]; rfl
    refine ⟨_, rfl, ⟨?_, ?_, ?_, ?_⟩, hcap⟩
    · rw [List.length_replicate]; show (cF τ 0 (nI n)).1 0 = nI n; exact cF_at _ _ _
    · rw [List.length_replicate, hcap]; exact h1
    · rw [hcap]; exact h2
    · intro p hp
      rw [List.length_replicate] at hp
      show s'.2.1 0 p = _
      rw [q4 p, if_pos (by omega), gD_e (by rw [List.length_replicate]; exact hp), List.getElem_replicate]
      rfl
  unfold C_Row_zero
  by_cases hle : n ≤ σ.2.2 0
  · refine RC_y ((nI_leI (by omega) (by omega)).mpr hle) ?_
    obtain ⟨u, q1, q2, q3⟩ := core σ hle hb
    rw [q1]
    exact RC_ret ⟨q2, by rw [q3], by rw [q3]; exact h64⟩
  · refine RC_n (fun z => hle ((nI_leI (by omega) (by omega)).mp z)) ?_
    have hcap : jmax (nI n) (2 * nI (σ.2.2 0)) = nI (max n (2 * σ.2.2 0)) := by
      rw [show (2 : Int32) = nI 2 from rfl, pk_mul]
      unfold jmax
      by_cases hz : n < 2 * σ.2.2 0
      · rw [if_pos ((nI_ltI (by omega) (by omega)).mpr hz), Nat.max_eq_right (by omega)]
      · rw [if_neg (fun z => hz ((nI_ltI (by omega) (by omega)).mp z)), Nat.max_eq_left (by omega)]
    rw [hcap, nI_clamp (by omega)]
    have hnew : C_newI (nI (max n (2 * σ.2.2 0))) = some ((0, ()), (1, max n (2 * σ.2.2 0))) := by
      unfold C_newI
      rw [gd_t (by rw [decide_eq_false (nI_pos (by omega))]; rfl), nI_clamp (by omega), gd_t (decide_eq_true (by omega))]
    obtain ⟨u, q1, q2, q3⟩ := core (cB σ 0 (max n (2 * σ.2.2 0)) (fun _ => 0)) (show n ≤ max n (2 * σ.2.2 0) by omega) (show max n (2 * σ.2.2 0) ≤ 140000 by omega)
    have q3' : u.2.2 0 = max n (2 * σ.2.2 0) := q3
    refine ⟨0, u, 1, max n (2 * σ.2.2 0), (2 * u.2.2 0 + x, u.2.2 0 + y), ?_, ⟨?_, ?_⟩, q2, rfl, by omega⟩
    · rw [hnew]
      simp only [ct, bnd, Option.bind_some]
      rw [q1]
      rfl
    · rw [q3']; simp only []; omega
    · rw [q3']; simp only []; omega
theorem vn8 {its : List AI} {it : AI} {mk w : Int32} {lev : Nat} {R : List XSt} (p1 : its = [(mk, w, 2 * 2 ^ lev, R, [])]) (p2 : isJ mk = true) (p4 : lev ≤ lvM mk) (h : it ∈ its) : it.2.2.1 ≤ 8 := by
  rw [p1] at h
  rw [List.mem_singleton.mp h]
  have : lvM mk ≤ 2 := by unfold lvM; split <;> omega
  rcases (show lev = 0 ∨ lev = 1 ∨ lev = 2 by omega) with z | z | z <;> (rw [z]; simp)
def ES (sE0 sE : CS) (l l1 : List Int32) : Prop := RowL (rg sE 0) l ∧ RowL (rg sE 1) l1 ∧ sE.1 0 = sE0.1 0 ∧ sE.2.2 = sE0.2.2
section
variable {N : Nat} {X : List Int32} {ns : List (List Int32)} {Y K V so va op re od : List Int32} {sP sI sE sE0 sY sN sT sF : CS} {E : List Ev} {x y : Nat} {S : List Int32}
theorem C_slot (hN : 70000 < N) (h : PRG X ns Y K V so va E sP sI) (hV : ∀ c ∈ X, okT c) (hNL : NmS sN ns so va op re od) (h20 : sP.2.2 20 = 10) (hK : K.length ≤ 60000) {Z : List Int32} (hF : FR4 sF K V S Z) (hY : RowL sY Y) {E1 E2 : List Ev} {e : Ev} (hE : E = E1 ++ e :: E2) (h5 : e.1 = 5) {j : Nat} {it : AI} (hj : e.2.2.2.2.2[j]? = some it) {at' L : Nat} (hat' : at' = adS (bsE E) (lay (0, 0) E1) e.2.2.2.1 + szL (offS (lay (0, 0) E1) e.2.2.2.1) (e.2.2.2.2.2.take j)) (hLl : L = lenI (offS (lay (0, 0) E1) e.2.2.2.1 + szL (offS (lay (0, 0) E1) e.2.2.2.1) (e.2.2.2.2.2.take j)) it) {l l1 : List Int32} (hS : ES sE0 sE l l1) (hfit : L = 0 ∨ at' + L ≤ l1.length) (hb : at' + L < 2 ^ 28) {m : Nat} {Q : Int32 → CS × CS → Nat × Nat → Prop}
    (good : ckI (ηE X E (lay (0, 0) E1) e) (aE E (lay (0, 0) E1) e) it = 0 → ∀ sE' sF' Z', ES sE0 sE' (wr l at' (wI (ηE X E (lay (0, 0) E1) e) (aE E (lay (0, 0) E1) e) it)) (wr l1 at' (List.replicate L (nI e.2.2.1))) → FR4 sF' K V S Z' → RC (fp sF' x y) (C_Enc_encodeAll_30 N m (nI (cI E1 + j + 1)) sE' sY sF' sN sT sP sI) Q)
    (bad : ckI (ηE X E (lay (0, 0) E1) e) (aE E (lay (0, 0) E1) e) it ≠ 0 → ∀ sE' sF', (∃ l l1, ES sE0 sE' l l1) → FVal sF' → Q (nI (ckI (ηE X E (lay (0, 0) E1) e) (aE E (lay (0, 0) E1) e) it + 16 * e.2.2.1)) (sE', sF') (fp sF' x y)) :
    RC (fp sF x y) (C_Enc_encodeAll_30 N (m + 1) (nI (cI E1 + j)) sE sY sF sN sT sP sI) Q := by
  have h' := h
  obtain ⟨hX, hW, hNm, hPr, hL, hc, hPl⟩ := h
  obtain ⟨r0, r1, r2, r3⟩ := hS
  have hcs := cI_split hE
  rw [nit_5 h5] at hcs
  have hjl := getE_lt hj
  have hL5 := hL.2.2.1
  have hLc := hL.1
  obtain ⟨i1, i2, i3, i4, i5, i6, i7, i8⟩ := (hPr.2 E1 e E2 hE).1 h5 j it hj
  have hf4 : sI.2.1 (cI E1 + j + 1) 4 = nI L := by rw [hLl]; exact ((hPl.2.2.2 E1 e E2 hE).1 h5 j it hj).2
  obtain ⟨f1, f2⟩ := C_find hc hL (nI (cI E1 + j))
  rw [fnI_nI (by omega) (by omega)] at f1 f2
  have hadr : C_Prg_addressOf (nI (cI E1 + j)) sP sI = some (nI at') := by
    rw [C_addr hc hL, adr_it h' hE h5 hj, hat']
  rw [C_Enc_encodeAll_30]
  refine RC_n (by rw [hc]; exact fun z => absurd ((nI_leI (by omega) (by omega)).mp z) (by omega)) (RC_cr f1 (RC_cr hadr (RC_gd (decide_eq_true f2) (RC_gd (decide_eq_true f2) ?_))))
  rw [hf4, i1, nI_add]
  have hfl : ∃ u, C_Row_fill N (nI at') (nI (at' + L)) (nI e.2.2.1) (rg sE 1) = some (0, u) ∧ RowL u (wr l1 at' (List.replicate L (nI e.2.2.1))) ∧ u.2.2 = (rg sE 1).2.2 := by
    rcases hfit with z | z
    · rw [z, Nat.add_zero]
      obtain ⟨u, q1, q2, q3⟩ := C_rowfill0 hN r1 (a := at') (by omega) (nI e.2.2.1)
      exact ⟨u, q1, q2, q3⟩
    · have := r1.cap
      have := r1.big
      by_cases hz : L < 70000
      · exact C_rowfill hN r1 hz z _
      · exfalso
        have hS := (WfE_SI hX hW e (by rw [hE]; simp)).1 h5
        have hle : L ≤ 40000 := by
          rw [hLl]
          have hmem := List.mem_of_getElem? hj
          unfold lenI
          split
          · rename_i c3
            rcases hS with ⟨p1, p2⟩ | ⟨n, p1, p2⟩ | ⟨mk, w, lev, R, p1, p2, p3, p4⟩
            · exact absurd c3 (p1 it hmem).1
            · rw [p2] at hmem
              rw [List.mem_singleton.mp hmem]
              have := padN_le (offS (lay (0, 0) E1) e.2.2.2.1 + szL (offS (lay (0, 0) E1) e.2.2.2.1) (e.2.2.2.2.2.take j)) p1
              simp only []
              rw [nI_clamp (by omega)]
              omega
            · rw [p1] at hmem
              rw [List.mem_singleton.mp hmem] at c3
              have c3' : mk = 3 := c3
              rw [c3'] at p2
              exact absurd p2 (by decide)
          · rcases hS with ⟨p1, p2⟩ | ⟨n, p1, p2⟩ | ⟨mk, w, lev, R, p1, p2, p3, p4⟩
            · have : it.2.2.1 ≤ ilens e.2.2.2.2.2 := by
                unfold ilens
                exact mem_sum _ _ (List.mem_map.mpr ⟨it, hmem, rfl⟩)
              omega
            · rw [p2] at hmem
              rw [List.mem_singleton.mp hmem]; exact Nat.zero_le _
            · have := (vn8 p1 p2 p4 hmem)
              omega
        omega
  obtain ⟨u, q1, q2, q3⟩ := hfl
  refine RC_cl q1 (RC_bnd ?_)
  have hR0 : RowL (rg (rs sE 1 u) 0) l := by rw [rg_rs (by decide)]; exact r0
  have hcaps : (rs sE 1 u).2.2 = sE.2.2 := rs_caps q3
  have hlenit : it.2.2.1 ≤ L ∨ it.1 = 3 := by
    rw [hLl]
    unfold lenI
    by_cases c3 : it.1 = 3
    · exact Or.inr c3
    · rw [if_neg c3]; exact Or.inl (Nat.le_refl _)
  have hit0 : it.1 = 3 → it.2.2.1 = 0 := by
    intro c3
    have hmem := List.mem_of_getElem? hj
    have hS := (WfE_SI hX hW e (by rw [hE]; simp)).1 h5
    rcases hS with ⟨p1, p2⟩ | ⟨n, p1, p2⟩ | ⟨mk, w, lev, R, p1, p2, p3, p4⟩
    · exact absurd c3 (p1 it hmem).1
    · rw [p2] at hmem
      rw [List.mem_singleton.mp hmem]
    · rw [p1] at hmem
      rw [List.mem_singleton.mp hmem] at c3
      have c3' : mk = 3 := c3
      rw [c3'] at p2
      exact absurd p2 (by decide)
  have hat2 : at' + it.2.2.1 < 2 ^ 29 := by
    rcases hlenit with z | z
    · omega
    · rw [hit0 z]; omega
  have haA : ¬ pln it.1 → nI at' = aE E (lay (0, 0) E1) e := by
    intro hnp
    obtain ⟨-, v1, -, -⟩ := ItV_ev hV hX hW hE h5 it (List.mem_of_getElem? hj)
    rcases v1 with z | z
    · exact absurd z hnp
    · have hj0 : j = 0 := by
        rw [z] at hjl
        simp only [List.length_cons, List.length_nil] at hjl
        omega
      rw [hat', hj0, List.take_zero]
      rfl
  refine RC_then (C_encIt (x := x) (y := y) hN h' hV hNL h20 hK hF hY hE h5 hj hat2 haA hR0) (fun v w c hw => ?_)
  obtain ⟨rfl, ⟨Z', w2⟩, rfl, w4, ⟨l', w5⟩, w6⟩ := hw
  have hES : ∀ l'', RowL (rg w.1 0) l'' → ES sE0 w.1 l'' (wr l1 at' (List.replicate L (nI e.2.2.1))) := by
    intro l'' hl
    refine ⟨hl, ?_, ?_, ?_⟩
    · rw [w4.1]; exact RowL_rs q2
    · rw [w4.2.1, rs_num (by decide)]; exact r2
    · rw [w4.2.2, hcaps]; exact r3
  have hle15 := ckI_le (ηE X E (lay (0, 0) E1) e) (aE E (lay (0, 0) E1) e) it
  by_cases hz : ckI (ηE X E (lay (0, 0) E1) e) (aE E (lay (0, 0) E1) e) it = 0
  · refine RC_y (by rw [hz]; rfl) ?_
    rw [show nI (cI E1 + j) + 1 = nI (cI E1 + j + 1) from nI_add _ 1]
    exact good hz w.1 w.2 Z' (hES _ (w6 hz)) w2
  · refine RC_n (fun z => hz ((fl_nI _ hle15).mp z)) (RC_gd (decide_eq_true f2) ?_)
    rw [show (16 : Int32) = nI 16 from rfl, pk_mul, nI_add]
    exact RC_ret (bad hz w.1 w.2 ⟨_, _, hES _ w5⟩ ⟨_, _, _, _, w2⟩)
theorem C_slotP (hN : 70000 < N) (h : PRG X ns Y K V so va E sP sI) {k : Nat} (hk : k < cI E) {sec : Nat} {w : Int32} (hP : PlI sI k sec w) {at' : Nat} (hat : adrC sP sI (cI E) (nI k) = nI at') (hb : at' < 2 ^ 28) {l l1 : List Int32} (hS : ES sE0 sE l l1) {m : Nat} {Q : Int32 → CS × CS → Nat × Nat → Prop} (good : ∀ sE', ES sE0 sE' l l1 → RC (fp sF x y) (C_Enc_encodeAll_30 N m (nI (k + 1)) sE' sY sF sN sT sP sI) Q) : RC (fp sF x y) (C_Enc_encodeAll_30 N (m + 1) (nI k) sE sY sF sN sT sP sI) Q := by
  obtain ⟨hX, hW, hNm, hPr, hL, hc, hPl⟩ := h
  obtain ⟨r0, r1, r2, r3⟩ := hS
  have hL5 := hL.2.2.1
  have hLc := hL.1
  obtain ⟨f1, f2⟩ := C_find hc hL (nI k)
  rw [fnI_nI hk (by omega)] at f1 f2
  have hadr : C_Prg_addressOf (nI k) sP sI = some (nI at') := by rw [C_addr hc hL, hat]
  rw [C_Enc_encodeAll_30]
  refine RC_n (by rw [hc]; exact fun z => absurd ((nI_leI (by omega) (by omega)).mp z) (by omega)) (RC_cr f1 (RC_cr hadr (RC_gd (decide_eq_true f2) (RC_gd (decide_eq_true f2) ?_))))
  rw [hP.2.2.1, show nI at' + 0 = nI at' from nI_add at' 0]
  obtain ⟨u, q1, q2, q3⟩ := C_rowfill0 hN r1 (a := at') (by omega) (sI.2.1 (k + 1) 0)
  refine RC_cl q1 (RC_bnd ?_)
  have henc : C_Enc_encode N (k + 1) (nI at') (rs sE 1 u) sY sF sN sT sP sI = some ((0, (rs sE 1 u, sF)), (0, 0)) := by
    unfold C_Enc_encode C_Enc_encode_40
    rw [gd_t (decide_eq_true f2), hP.2.1, if_neg (by decide), if_pos rfl]
  rw [henc]
  have hgo := good (rs sE 1 u) ⟨by rw [rg_rs (by decide)]; exact r0, RowL_rs q2, by rw [rs_num (by decide)]; exact r2, by rw [rs_caps q3]; exact r3⟩
  have : RC (fp sF x y) (some (((0 : Int32), (rs sE 1 u, sF)), (0, 0))) (fun v w c => v = 0 ∧ w = (rs sE 1 u, sF) ∧ c = fp sF x y) := RC_ret ⟨rfl, rfl, rfl⟩
  refine RC_then this (fun v w c hw => ?_)
  obtain ⟨rfl, rfl, rfl⟩ := hw
  refine RC_y rfl ?_
  rw [show nI k + 1 = nI (k + 1) from nI_add k 1]
  exact hgo
end
