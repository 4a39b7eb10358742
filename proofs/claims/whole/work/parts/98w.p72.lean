/-! ===== the class's parser: strings, registers ===== -/
abbrev strB (k : Nat) : List Int32 := ex_byt.getD k []
theorem str_len : ∀ k, k < 188 → ex_len.getD k 0 = (strB k).length ∧ (strB k).length ≤ 60 := by decide +kernel
theorem str_byt : ∀ k, k < 188 → ∀ b ∈ strB k, isC b = true ∧ (((b &&& 255).toUInt32 % 65536).toInt32) = b ∧ b.toNatClampNeg < 128 ∧ ¬ b < 0 := by decide +kernel
theorem exN : ex_N = 188 := by decide +kernel
theorem C_slen {k : Nat} (hk : k < 188) : C_Str_length k = some (nI (strB k).length) := by
  unfold C_Str_length C_Str_coder C_Str_coder_14
  have h : decide (k < ex_N) = true := by rw [exN]; simpa using hk
  rw [gd_t h, gd_t h, gd_t h, gd_t h, if_neg (by decide), gd_t (by decide)]
  simp only [cr, Option.bind_some]
  rw [(str_len k hk).1]
  have := shr_0 (nI (strB k).length)
  exact congrArg some this
theorem C_schar {k i : Nat} (hk : k < 188) (hi : i < (strB k).length) : C_Str_charAt k (nI i) = some ((strB k).getD i 0) := by
  have h : decide (k < ex_N) = true := by rw [exN]; simpa using hk
  have hl := str_len k hk
  have hb := str_byt k hk ((strB k).getD i 0) (by rw [gD_e hi]; exact List.getElem_mem _)
  unfold C_Str_charAt C_Str_isLatin1 C_Str_isLatin1_18 C_Sl1_charAt C_Str_checkIndex
  rw [gd_t h, if_neg (by decide), gd_t h, if_pos rfl, gd_t (by decide)]
  simp only [cr, Option.bind_some]
  rw [if_neg (by decide), gd_t h, gd_t h, hl.1, gd_t (by simp [nI_pos (show i < 2 ^ 31 by omega)]), gd_t (by rw [decide_eq_true_eq, nI_ltI (by omega) (by omega)]; exact hi)]
  simp only [Option.bind_some]
  rw [gd_t h, gd_t (inB_nI hi (by omega)), nI_clamp (by omega), hb.2.1, gd_t hb.1]
  simp only [Option.bind_some]
  rw [gd_t hb.1]
theorem C_sidx {N : Nat} {c : Int32} : ∀ (m i : Nat), i ≤ (strB 16).length → (strB 16).length - i < m → ∃ r, C_Sl1_indexOfChar_7 N m 16 (nI (strB 16).length) c (nI i) = some r ∧ (r < 0 ↔ c ∉ (strB 16).drop i) := by
  have h : decide (16 < ex_N) = true := by rw [exN]; decide
  have hl := str_len 16 (by omega)
  intro m
  induction m with
  | zero => intro i _ h; omega
  | succ m ih =>
    intro i hi hm
    rw [C_Sl1_indexOfChar_7]
    by_cases he : (strB 16).length ≤ i
    · refine ⟨-1, by show (if nI (strB 16).length ≤ nI i then _ else _) = _; rw [if_pos (by rw [nI_leI (by omega) (by omega)]; exact he)], ?_⟩
      rw [List.drop_eq_nil_of_le he]
      exact ⟨fun _ => by simp, fun _ => by decide⟩
    · have hd : (strB 16).drop i = (strB 16).getD i 0 :: (strB 16).drop (i + 1) := drop_cons _ (by omega) 0
      show ∃ r, (if nI (strB 16).length ≤ nI i then _ else _) = some r ∧ _
      rw [if_neg (by rw [nI_leI (by omega) (by omega)]; exact he), gd_t h, hl.1, gd_t (inB_nI (by omega) (by omega)), nI_clamp (by omega)]
      by_cases hc : (strB 16).getD i 0 = c
      · rw [if_pos hc]
        refine ⟨_, rfl, ⟨fun z => absurd z (nI_pos (by omega)), fun z => ?_⟩⟩
        exfalso
        apply z
        rw [hd, hc]
        exact List.mem_cons_self
      · rw [if_neg hc, nI_1]
        obtain ⟨r, r1, r2⟩ := ih (i + 1) (by omega) (by omega)
        refine ⟨r, r1, r2.trans ?_⟩
        rw [hd]
        simp only [List.mem_cons, not_or]
        exact ⟨fun z => ⟨fun y => hc y.symm, z⟩, fun z => z.2⟩
theorem isRM_16 : ∀ k, k < 128 → isRM (nI k) = decide (nI k ∈ strB 16) ∧ (((nI k).toUInt32 % 65536).toInt32) = nI k ∧ (nI k).toInt8.toInt32 = nI k := by decide +kernel
theorem C_isReg {N k : Nat} (hN : 100 < N) (hk : k < 128) : C_Fie_isRegister N (nI k) = some (b2 (isRM (nI k))) := by
  have h : decide (16 < ex_N) = true := by rw [exN]; decide
  have hl := str_len 16 (by omega)
  obtain ⟨m1, m2, m3⟩ := isRM_16 k hk
  unfold C_Fie_isRegister C_Str_indexOf1 C_Str_indexOf C_Str_isLatin1 C_Str_isLatin1_18 C_Sl1_indexOf C_Sl1_canEncode C_Sl1_canEncode_16 C_Sl1_indexOfChar C_Fie_isRegister_15
  rw [gd_t h, gd_t h, gd_t h, if_neg (by decide), gd_t h, if_pos rfl, gd_t (by decide), m2]
  simp only [cr, Option.bind_some]
  rw [if_neg (by decide), gd_t h, gd_t h, C_slen (by omega)]
  simp only [Option.bind_some]
  rw [if_neg (nI_pos (by omega)), if_neg (by rw [show (255 : Int32) = nI 255 from rfl, nI_ltI (by omega) (by omega)]; omega), gd_t (by decide)]
  simp only [Option.bind_some]
  rw [if_neg (by decide), hl.1]
  have e0 : jmax 0 0 = nI 0 := by decide
  have e1 : jmin (nI (strB 16).length) (nI (strB 16).length) = nI (strB 16).length := by rw [jmin_nI (by omega) (by omega), Nat.min_self]
  rw [e0, e1, if_pos (by decide +kernel), m3]
  obtain ⟨r, r1, r2⟩ := C_sidx (N := N) (c := nI k) N 0 (by omega) (by omega)
  rw [r1]
  simp only [Option.bind_some]
  rw [List.drop_zero] at r2
  rw [m1]
  by_cases hr : r < 0
  · rw [if_pos hr, gd_t (by decide), decide_eq_false (r2.mp hr)]; rfl
  · rw [if_neg hr, decide_eq_true (Decidable.not_not.mp (fun z => hr (r2.mpr z)))]; rfl
/-- what the parser may lean on -/
def PCx (N : Nat) (ns : List (List Int32)) (so va op re od : List Int32) (nr : Nat → Nat) (lo : AT → Bool) (sN sP : CS) : Prop := 70000 < N ∧ NmS sN ns so va op re od ∧ (sP.2.2 20 = 10 ∧ ∀ d, d < 10 → sP.2.1 20 d = nI (nr d)) ∧ (∀ (a : AT) (i : Nat), i < ns.length → ns.getD i [] = a.nm → (lo a = true ↔ (a.nm = dotB ∨ so.getD i 0 ≠ 2))) ∧ (∀ i, i < ns.length → getR re (nI i) = regR (ns.getD i []) + 1)
theorem PCx.p {N : Nat} {ns : List (List Int32)} {so va op re od : List Int32} {nr : Nat → Nat} {lo : AT → Bool} {sN sP sP' : CS} (h : PCx N ns so va op re od nr lo sN sP) (h2 : sP'.2 = sP.2) : PCx N ns so va op re od nr lo sN sP' := ⟨h.1, h.2.1, by rw [h2]; exact h.2.2.1, h.2.2.2⟩
theorem Suf.hasE {rest ts : List AT} {k : Nat} (h : Suf rest ts k) (hE : HasE ts) : HasE rest := by
  obtain ⟨pre, e, -, hp⟩ := h
  obtain ⟨a, ha, hk⟩ := hE
  rw [e] at ha
  rcases List.mem_append.mp ha with z | z
  · exact absurd hk (hp a z).1
  · exact ⟨a, z, hk⟩
theorem Suf.nrF {rest ts : List AT} {k : Nat} (h : Suf rest ts k) (hN : NrF ts) : NrF rest := by
  obtain ⟨pre, e, -, hp⟩ := h
  exact fun a ha => hN a (by rw [e]; exact List.mem_append_right _ ha)
theorem Suf.lev {rest ts : List AT} {k : Nat} (h : Suf rest ts k) (hN : ∀ a ∈ ts, levN (AT.k a) < 7) : ∀ a ∈ rest, levN (AT.k a) < 7 := by
  obtain ⟨pre, e, -, hp⟩ := h
  exact fun a ha => hN a (by rw [e]; exact List.mem_append_right _ ha)
theorem regR_0 {nm : List Int32} : (regR nm + 1 ≤ 0) ↔ ¬ 0 ≤ regR nm := by
  by_cases h : 0 ≤ regR nm
  · obtain ⟨j, hj, e⟩ := regR_n h
    rw [e, nI_1, show (0 : Int32) = nI 0 from rfl, nI_leI (by omega) (by omega), nI_leI (by omega) (by omega)]
    omega
  · rw [regR_m1 h]
    decide
section
variable {N : Nat} {ns : List (List Int32)} {nr : Nat → Nat} {Y so va op re od : List Int32} {sN sP sI sR sF : CS} {lo : AT → Bool}
theorem C_isRegister (C : PCx N ns so va op re od nr lo sN sP) {sT : CS} {ts : List AT} (hT : TPos ns Y sT ts) : C_Par_isRegister sR sF sN sT sP sI = some (b2 (isReg ts)) ∧ (isReg ts = true → ∃ a r v, ts = a :: r ∧ a.k = 2 ∧ 0 ≤ regR a.nm ∧ C_Tok_value 0 sT = some v ∧ C_Row_get v (rg sN 3) = some (regR a.nm + 1)) := by
  obtain ⟨c1, c2, c3, c4, c5⟩ := C
  have hNL := c2.1
  have hk := T_kind hT (j := 0) (by omega)
  change C_Tok_kind 0 sT = some _ at hk
  unfold C_Par_isRegister C_Par_isRegister_37 C_Par_isRegister_38
  rw [hk]
  simp only [cr, Option.bind_some]
  cases ts with
  | nil =>
    rw [if_neg (show ¬ kAt [] 0 = 2 by show ¬ ((0 : Int32) = 2); decide), gd_t (by decide)]
    exact ⟨rfl, fun z => by cases z⟩
  | cons a r =>
    rw [kAt_0]
    by_cases k2 : a.k = 2
    · rw [if_pos k2]
      obtain ⟨v, wl, tv, tr, -⟩ := T_value hT (j := 0) (by omega) (a := a) (r := r) rfl
      change C_Tok_value 0 sT = some v at tv
      obtain ⟨i, hi1, hi2, hi3⟩ := tr.nm k2
      have hi3' : v = nI i := hi3
      have hre : C_Row_get v (rg sN 3) = some (regR a.nm + 1) := by rw [C_Row_get_eq hNL.r3, hi3', c5 i hi1, hi2]
      rw [tv]
      simp only [Option.bind_some]
      rw [hre]
      simp only [Option.bind_some]
      by_cases hr : 0 ≤ regR a.nm
      · rw [if_neg (fun z => (regR_0.mp z) hr), gd_t (by decide)]
        have e : isReg (a :: r) = true := by show (decide (a.k = 2) && decide (0 ≤ regR a.nm)) = true; rw [decide_eq_true k2, decide_eq_true hr]; rfl
        rw [e]
        exact ⟨rfl, fun _ => ⟨a, r, v, rfl, k2, hr, rfl, hre⟩⟩
      · rw [if_pos (regR_0.mpr hr), gd_t (by decide)]
        have e : isReg (a :: r) = false := by show (decide (a.k = 2) && decide (0 ≤ regR a.nm)) = false; rw [decide_eq_false hr, Bool.and_false]
        rw [e]
        exact ⟨rfl, fun z => by cases z⟩
    · rw [if_neg k2, gd_t (by decide)]
      have e : isReg (a :: r) = false := by show (decide (a.k = 2) && decide (0 ≤ regR a.nm)) = false; rw [decide_eq_false k2]; rfl
      rw [e]
      exact ⟨rfl, fun z => by cases z⟩
theorem tkR_c (a : AT) (r : List AT) : tkR (a :: r) = if a.k = 0 ∨ a.k = 1 then (1, 0, []) else if a.k = 2 ∧ 0 ≤ regR a.nm then (0, regR a.nm, r) else (3, 0, []) := rfl
theorem regT_f {mk : Int32} {ts : List AT} {k : Nat} {v : Int32} {r : List AT} (h : tkR ts = (k + 1, v, r)) : regT mk ts = (k + 1, 0, []) := by
  unfold regT
  rw [h, if_pos (show k + 1 ≠ 0 by omega)]
theorem C_readReg (C : PCx N ns so va op re od nr lo sN sP) {sT : CS} {ts : List AT} (hT : TPos ns Y sT ts) (mk : Int32) : ∃ v sT', C_Par_readRegister mk sR sF sN sT sP sI = some (v, sT') ∧ TQ sT sT' ∧ (((regT mk ts).1 = 0 ∧ v = (regT mk ts).2.1 ∧ 0 ≤ v ∧ TPos ns Y sT' (regT mk ts).2.2) ∨ ((regT mk ts).1 ≠ 0 ∧ ¬ 0 ≤ v ∧ -v = nI (regT mk ts).1 ∧ TPos ns Y sT' ts)) := by
  have hk := T_kind hT (j := 0) (by omega)
  change C_Tok_kind 0 sT = some _ at hk
  obtain ⟨g1, g2⟩ := C_isRegister (sR := sR) (sF := sF) (sI := sI) C hT
  unfold C_Par_readRegister C_Par_readRegister_18 C_Par_readRegister_55
  rw [hk]
  simp only [cr, Option.bind_some]
  cases ts with
  | nil =>
    rw [if_pos (show kAt [] 0 = 0 from rfl)]
    exact ⟨_, _, rfl, TQ.rf _, Or.inr ⟨by show (1 : Nat) ≠ 0; omega, by decide, rfl, hT⟩⟩
  | cons a r =>
    rw [kAt_0]
    by_cases k0 : a.k = 0
    · rw [if_pos k0]
      have e : regT mk (a :: r) = (1, 0, []) := regT_f (k := 0) (by rw [tkR_c, if_pos (Or.inl k0)])
      rw [e]
      exact ⟨_, _, rfl, TQ.rf _, Or.inr ⟨by decide, by decide, rfl, hT⟩⟩
    rw [if_neg k0]
    by_cases k1 : a.k = 1
    · rw [if_pos k1]
      have e : regT mk (a :: r) = (1, 0, []) := regT_f (k := 0) (by rw [tkR_c, if_pos (Or.inr k1)])
      rw [e]
      exact ⟨_, _, rfl, TQ.rf _, Or.inr ⟨by decide, by decide, rfl, hT⟩⟩
    rw [if_neg k1, g1]
    simp only [Option.bind_some]
    by_cases hr : isReg (a :: r) = true
    · rw [hr, if_neg (by decide)]
      obtain ⟨a', r', v, e1, k2, hr2, tv, hre⟩ := g2 hr
      injection e1 with e1 e2
      subst e1; subst e2
      rw [tv]
      simp only [Option.bind_some]
      rw [hre]
      simp only [Option.bind_some]
      have er : regR a.nm + 1 - 1 = regR a.nm := by obtain ⟨j, hj, e⟩ := regR_n hr2; rw [e, nI_1, nI_pred]
      rw [er, C_rb]
      simp only [Option.bind_some]
      have et : tkR (a :: r) = (0, regR a.nm, r) := by rw [tkR_c, if_neg (by simp [k0, k1]), if_pos ⟨k2, hr2⟩]
      by_cases hb : rb mk (regR a.nm) < 0
      · rw [if_neg (fun z => absurd hb (Int32.not_lt.mpr z))]
        have e : regT mk (a :: r) = (3, 0, []) := by unfold regT; rw [et, if_neg (show ¬ (0 : Nat) ≠ 0 by omega), if_pos hb]
        rw [e]
        exact ⟨_, _, rfl, TQ.rf _, Or.inr ⟨by decide, by decide, rfl, hT⟩⟩
      · rw [if_pos (Int32.not_lt.mp hb)]
        obtain ⟨sT', t1, t2, t3, t4⟩ := T_skip hT (j := 1) (by omega)
        change C_Tok_skip 1 sT = some (0, sT') at t1
        rw [t1]
        have e : regT mk (a :: r) = (0, rb mk (regR a.nm), r) := by unfold regT; rw [et, if_neg (show ¬ (0 : Nat) ≠ 0 by omega), if_neg hb]
        rw [e]
        exact ⟨_, _, rfl, ⟨t3, t4⟩, Or.inl ⟨rfl, rfl, Int32.not_lt.mp hb, t2⟩⟩
    · have hrf : isReg (a :: r) = false := by simpa using hr
      rw [hrf, if_pos (by decide), if_neg (by decide)]
      have hn : ¬ (a.k = 2 ∧ 0 ≤ regR a.nm) := fun z => by
        have : isReg (a :: r) = true := by show (decide (a.k = 2) && decide (0 ≤ regR a.nm)) = true; rw [decide_eq_true z.1, decide_eq_true z.2]; rfl
        exact hr this
      have e : regT mk (a :: r) = (3, 0, []) := regT_f (k := 2) (by rw [tkR_c, if_neg (by simp [k0, k1]), if_neg hn])
      rw [e]
      exact ⟨_, _, rfl, TQ.rf _, Or.inr ⟨by decide, by decide, rfl, hT⟩⟩
end
/-! the whole potential: formulas, labels, items -/
abbrev tp (sF sP sI : CS) (x y : Nat) : Nat × Nat := (2 * capF sF + 2 * sP.2.2 0 + (9 * sI.2.2 0 + 4 * sI.2.2 1) + x, capF sF + sP.2.2 0 + 64 * (sI.2.2 0 + sI.2.2 1) + y)
theorem tp_f (sF sP sI : CS) (x y : Nat) : tp sF sP sI x y = fp sF (2 * sP.2.2 0 + (9 * sI.2.2 0 + 4 * sI.2.2 1) + x) (sP.2.2 0 + 64 * (sI.2.2 0 + sI.2.2 1) + y) := Prod.ext (by simp only []; omega) (by simp only []; omega)
theorem tp_i (sF sP sI : CS) (x y : Nat) : tp sF sP sI x y = ip sI (2 * capF sF + 2 * sP.2.2 0 + x) (capF sF + sP.2.2 0 + y) := Prod.ext (by simp only []; omega) (by simp only []; omega)
