/-! ===== numbers in bits; packed names; registers ===== -/
theorem nI_bv (a : Nat) : (nI a).toBitVec = BitVec.ofNat 32 a := rfl
theorem nI_tn {a : Nat} (h : a < 2 ^ 32) : (nI a).toBitVec.toNat = a := by
  rw [nI_bv, BitVec.toNat_ofNat, Nat.mod_eq_of_lt h]
theorem nI_shl (a : Nat) {c : Int32} {k : Nat} (hk : (c.toBitVec.smod 32).toNat = k) : nI a <<< c = nI (a * 2 ^ k) := by
  apply Int32.toBitVec_inj.mp
  rw [Int32.toBitVec_shiftLeft]
  apply BitVec.eq_of_toNat_eq
  rw [BitVec.shiftLeft_eq', BitVec.toNat_shiftLeft, hk, nI_bv, nI_bv, BitVec.toNat_ofNat, BitVec.toNat_ofNat, Nat.shiftLeft_eq, Nat.mod_mul_mod]
theorem nI_shr {a : Nat} (ha : a < 2 ^ 31) {c : Int32} {k : Nat} (hk : (c.toBitVec.smod 32).toNat = k) : nI a >>> c = nI (a / 2 ^ k) := by
  apply Int32.toBitVec_inj.mp
  rw [Int32.toBitVec_shiftRight]
  have hm : (nI a).toBitVec.msb = false := by
    rw [BitVec.msb_eq_false_iff_two_mul_lt, nI_tn (by omega)]
    omega
  rw [BitVec.sshiftRight_eq', BitVec.sshiftRight_eq_of_msb_false hm]
  apply BitVec.eq_of_toNat_eq
  rw [BitVec.toNat_ushiftRight, hk, nI_tn (by omega), Nat.shiftRight_eq_div_pow, nI_tn]
  exact Nat.lt_of_le_of_lt (Nat.div_le_self _ _) (by omega)
theorem nI_or {a b k : Nat} (ha : a < 2 ^ k) (h : b * 2 ^ k + a < 2 ^ 32) : nI (b * 2 ^ k) ||| nI a = nI (b * 2 ^ k + a) := by
  apply Int32.toBitVec_inj.mp
  rw [Int32.toBitVec_or]
  apply BitVec.eq_of_toNat_eq
  rw [BitVec.toNat_or, nI_tn (by omega), nI_tn (by omega), nI_tn h, Nat.mul_comm b, Nat.two_pow_add_eq_or_of_lt ha]
theorem nI_and {a : Nat} (ha : a < 2 ^ 32) {m : Int32} (k : Nat) (hm : m.toBitVec.toNat = 2 ^ k - 1) : nI a &&& m = nI (a % 2 ^ k) := by
  rw [pk_and (nI a) k hm, nI_tn ha]
/-! packed names -/
def pBad (c : Int32) : Bool := (decide (65 ≤ c) && decide (c ≤ 90)) || decide (c = 95) || decide (c = 36)
def pCode (c : Int32) : Int32 := if c = 46 then 37 else if isDg c = true then (27 + c) - 48 else c - 96
def pkR : List Int32 → Int64 → Int64
  | [], z => z
  | c :: r, z => if pBad c = true then 0 else pkR r ((z <<< ((6 : Int32).toInt64 &&& 63)) ||| (pCode c).toInt64)
def pk (nm : List Int32) : Int64 := if 10 < nm.length then 0 else pkR nm.reverse 0
theorem M_packed_17_eq {σ : MS} {X : List Int32} {N : Nat} (T : TX σ (tw X) X.length) {p : Nat} : ∀ (m k : Nat) (z : Int64), p ≤ k → k ≤ X.length → k - p < m → M_packed_17 N m (nI p) z (nI k - 1) σ = some (pkR (cut X p k).reverse z) := by
  have hn := T.small
  intro m
  induction m with
  | zero => intro k z h1 h2 h3; omega
  | succ m ih =>
    intro k z h1 h2 h3
    rw [M_packed_17]
    show (if nI k - 1 < nI p then _ else _) = _
    by_cases hk : k = p
    · subst hk
      have hlt : nI k - 1 < nI k := by
        cases k with
        | zero => decide
        | succ j => rw [nI_pred, nI_ltI (by omega) (by omega)]; omega
      rw [if_pos hlt, cut_self]
      rfl
    · obtain ⟨j, rfl⟩ : ∃ j, k = j + 1 := ⟨k - 1, by omega⟩
      have ec : (cut X p (j + 1)).reverse = X.getD j 0 :: (cut X p j).reverse := by
        rw [cut_succ X (by omega) (by omega)]
        simp
      rw [nI_pred, if_neg (by rw [nI_ltI (by omega) (by omega)]; omega), gd_t (inB_nI (by omega) (by omega)), nI_clamp (by omega), T.text j (by omega), ec]
      show _ = some (pkR (X.getD j 0 :: _) z)
      have et : tw X j = X.getD j 0 := rfl
      rw [et]
      generalize X.getD j 0 = c
      have hih : ∀ z, M_packed_17 N m (nI p) z (nI j + -1) σ = some (pkR (cut X p j).reverse z) := by
        intro z
        rw [← Int32.sub_eq_add_neg]
        exact ih j z (by omega) (by omega) (by omega)
      have k46 : M_packed_46 N (M_packed_17 N m) (nI p) z (nI j) c σ = some (if c = 95 ∨ c = 36 then 0 else pkR (cut X p j).reverse ((z <<< ((6 : Int32).toInt64 &&& 63)) ||| (pCode c).toInt64)) := by
        unfold M_packed_46 M_packed_60 M_packed_102 pCode
        by_cases c1 : c = 95
        · simp only [c1, if_true, true_or]
        by_cases c2 : c = 36
        · simp only [c2, if_true, or_true]
          rfl
        simp only [c1, c2, if_false, or_self]
        by_cases c3 : c = 46
        · simp only [c3, if_true]; exact hih _
        simp only [c3, if_false, M_isDigit_eq, cr, Option.bind_some, b2_0]
        by_cases c4 : isDg c = true
        · simp only [c4, Bool.true_eq_false, if_false, if_true]; exact hih _
        · simp only [c4, if_false]
          simp only [Bool.not_eq_true] at c4
          simp only [c4, if_true]
          exact hih _
      simp only [pkR]
      by_cases d1 : c < 65
      · rw [if_pos d1, k46]
        have : pBad c = decide (c = 95 ∨ c = 36) := by
          unfold pBad
          rw [decide_eq_false (Int32.not_le.mpr d1)]
          simp
        rw [this]
        by_cases c1 : c = 95 ∨ c = 36 <;> simp [c1]
      · rw [if_neg d1]
        by_cases d2 : c ≤ 90
        · rw [if_pos d2]
          have : pBad c = true := by
            unfold pBad
            rw [decide_eq_true (Int32.not_lt.mp d1), decide_eq_true d2]
            rfl
          rw [this]
          rfl
        · rw [if_neg d2, k46]
          have : pBad c = decide (c = 95 ∨ c = 36) := by
            unfold pBad
            rw [decide_eq_false d2]
            simp
          rw [this]
          by_cases c1 : c = 95 ∨ c = 36 <;> simp [c1]
theorem M_packed_eq {σ : MS} {X : List Int32} {N : Nat} (T : TX σ (tw X) X.length) (hN : 20 < N) {p e : Nat} (hp : p ≤ e) (he : e ≤ X.length) : M_packed N (nI p) (nI e) σ = some (pk (cut X p e)) := by
  have hn := T.small
  unfold M_packed pk
  rw [pk_sub hp, cut_len X he]
  by_cases h : 10 < e - p
  · rw [if_neg (by rw [show (10 : Int32) = nI 10 from rfl, nI_leI (by omega) (by omega)]; omega), if_pos h]
  · rw [if_pos (by rw [show (10 : Int32) = nI 10 from rfl, nI_leI (by omega) (by omega)]; omega), if_neg h]
    exact M_packed_17_eq T N e 0 hp he (by omega)
/-- the letters that packed() knows, as numbers -/
def pN (c : Int32) : Nat := (pCode c).toNatClampNeg
def vc (c : Int32) : Bool := !(pBad c) && isPl c
def vcL : List Int32 := [46, 48, 49, 50, 51, 52, 53, 54, 55, 56, 57, 97, 98, 99, 100, 101, 102, 103, 104, 105, 106, 107, 108, 109, 110, 111, 112, 113, 114, 115, 116, 117, 118, 119, 120, 121, 122]
theorem vcL_1 : ∀ k, k < 58 → 48 ≤ k → nI k ∈ vcL := by decide
theorem vcL_2 : ∀ k, k < 123 → 97 ≤ k → nI k ∈ vcL := by decide
theorem vc_list {c : Int32} (h : vc c = true) : c ∈ vcL := by
  simp only [vc, pBad, isPl, isDg, isLt, Bool.and_eq_true, Bool.or_eq_true, Bool.not_eq_true', Bool.or_eq_false_iff, Bool.and_eq_false_iff, decide_eq_true_eq, decide_eq_false_iff_not] at h
  obtain ⟨⟨⟨h1, h2⟩, h3⟩, h4⟩ := h
  rcases h4 with (((⟨a, b⟩ | (⟨a, b⟩ | ⟨a, b⟩)) | a) | a) | a
  · obtain ⟨k, k1, k2, rfl⟩ := i_sub (a := 48) (b := 57) a b (by decide) (by decide)
    exact vcL_1 k (by omega) k1
  · obtain ⟨k, k1, k2, rfl⟩ := i_sub (a := 97) (b := 122) a b (by decide) (by decide)
    exact vcL_2 k (by omega) k1
  · rcases h1 with h1 | h1
    · exact absurd a h1
    · exact absurd b h1
  · exact absurd a h2
  · subst a; decide
  · exact absurd a h3
theorem vc_code : ∀ c : Int32, c ∈ vcL → 1 ≤ pN c ∧ pN c ≤ 37 ∧ (pCode c).toInt64 = lN (pN c) := by decide
theorem vc_inj : ∀ c : Int32, c ∈ vcL → ∀ d : Int32, d ∈ vcL → pN c = pN d → c = d := by decide +kernel
theorem lN_ti {n : Nat} (h : n < 2 ^ 63) : (lN n).toInt = (n : Int) := Int64.toInt_ofNat_of_lt h
theorem lN_sh {a b : Nat} (hb : b < 64) (h : a * 64 + b < 2 ^ 64) : (lN a <<< ((6 : Int32).toInt64 &&& 63)) ||| lN b = lN (a * 64 + b) := by
  apply Int64.toBitVec_inj.mp
  rw [Int64.toBitVec_or, Int64.toBitVec_shiftLeft]
  apply BitVec.eq_of_toNat_eq
  have e6 : ((((6 : Int32).toInt64 &&& 63) : Int64).toBitVec.smod 64).toNat = 6 := by decide
  have t : ∀ x : Nat, x < 2 ^ 64 → (lN x).toBitVec.toNat = x := by
    intro x hx
    show (BitVec.ofNat 64 x).toNat = x
    rw [BitVec.toNat_ofNat, Nat.mod_eq_of_lt hx]
  rw [BitVec.toNat_or, BitVec.shiftLeft_eq', BitVec.toNat_shiftLeft, e6, t a (by omega), t b (by omega), t _ h, Nat.shiftLeft_eq, Nat.mod_eq_of_lt (by omega), show a * 2 ^ 6 = 2 ^ 6 * a by omega, ← Nat.two_pow_add_eq_or_of_lt (by omega)]
/-- letters from behind: the number that they make -/
def pkN : List Int32 → Nat → Nat
  | [], a => a
  | c :: r, a => pkN r (a * 64 + pN c)
theorem pkR_N : ∀ (l : List Int32) (a : Nat), (∀ c ∈ l, vc c = true) → (a + 1) * 64 ^ l.length ≤ 2 ^ 62 → pkR l (lN a) = lN (pkN l a)
  | [], a, _, _ => rfl
  | c :: r, a, hv, hb => by
    have hc := hv c (List.mem_cons_self ..)
    obtain ⟨k1, k2, k3⟩ := vc_code c (vc_list hc)
    have hbad : pBad c = false := by
      simp only [vc, Bool.and_eq_true, Bool.not_eq_true'] at hc
      exact hc.1
    simp only [List.length_cons, Nat.pow_succ] at hb
    have h1 : 1 ≤ 64 ^ r.length := Nat.pow_pos (by decide)
    have h2 : (a * 64 + pN c + 1) * 64 ^ r.length ≤ 2 ^ 62 := by
      refine Nat.le_trans (Nat.mul_le_mul_right _ (show a * 64 + pN c + 1 ≤ (a + 1) * 64 by omega)) ?_
      rw [Nat.mul_assoc, Nat.mul_comm 64]
      exact hb
    have h3 : a * 64 + pN c + 1 ≤ 2 ^ 62 := Nat.le_trans (Nat.le_mul_of_pos_right _ h1) h2
    simp only [pkR, pkN, hbad, Bool.false_eq_true, if_false]
    rw [k3, lN_sh (by omega) (by omega)]
    exact pkR_N r _ (fun x hx => hv x (List.mem_cons_of_mem _ hx)) h2
def pkM : List Int32 → Nat
  | [] => 0
  | c :: r => pkM r * 64 + pN c
theorem pkN_snoc : ∀ (l : List Int32) (a : Nat) (c : Int32), pkN (l ++ [c]) a = pkN l a * 64 + pN c
  | [], a, c => rfl
  | d :: r, a, c => by
    show pkN (r ++ [c]) _ = pkN r _ * 64 + pN c
    exact pkN_snoc r _ c
theorem pkN_rev : ∀ (l : List Int32), pkN l.reverse 0 = pkM l
  | [] => rfl
  | c :: r => by
    rw [List.reverse_cons, pkN_snoc, pkN_rev r]
    rfl
theorem pkM_lt : ∀ (l : List Int32), (∀ c ∈ l, vc c = true) → pkM l < 64 ^ l.length
  | [], _ => by decide
  | c :: r, hv => by
    have h1 := pkM_lt r (fun x hx => hv x (List.mem_cons_of_mem _ hx))
    obtain ⟨k1, k2, -⟩ := vc_code c (vc_list (hv c (List.mem_cons_self ..)))
    simp only [pkM, List.length_cons, Nat.pow_succ]
    omega
theorem pkM_pos : ∀ (l : List Int32), l ≠ [] → (∀ c ∈ l, vc c = true) → 0 < pkM l
  | [], h, _ => absurd rfl h
  | c :: r, _, hv => by
    obtain ⟨k1, k2, -⟩ := vc_code c (vc_list (hv c (List.mem_cons_self ..)))
    simp only [pkM]
    omega
theorem pkM_inj : ∀ (a b : List Int32), (∀ c ∈ a, vc c = true) → (∀ c ∈ b, vc c = true) → pkM a = pkM b → a = b
  | [], [], _, _, _ => rfl
  | [], d :: s, _, hb, h => by
    have := pkM_pos (d :: s) (by simp) hb
    rw [← h] at this
    exact absurd this (by decide)
  | c :: r, [], ha, _, h => by
    have := pkM_pos (c :: r) (by simp) ha
    rw [h] at this
    exact absurd this (by decide)
  | c :: r, d :: s, ha, hb, h => by
    have v1 := vc_list (ha c (List.mem_cons_self ..))
    have v2 := vc_list (hb d (List.mem_cons_self ..))
    obtain ⟨k1, k2, -⟩ := vc_code c v1
    obtain ⟨j1, j2, -⟩ := vc_code d v2
    simp only [pkM] at h
    have e1 : pN c = pN d := by omega
    have e2 : pkM r = pkM s := by omega
    rw [vc_inj c v1 d v2 e1, pkM_inj r s (fun x hx => ha x (List.mem_cons_of_mem _ hx)) (fun x hx => hb x (List.mem_cons_of_mem _ hx)) e2]
theorem pkR_bad : ∀ (l : List Int32) (z : Int64), (∃ c ∈ l, pBad c = true) → pkR l z = 0
  | [], z, h => by obtain ⟨c, hc, -⟩ := h; cases hc
  | d :: r, z, h => by
    simp only [pkR]
    by_cases hd : pBad d = true
    · rw [if_pos hd]
    · rw [if_neg hd]
      refine pkR_bad r _ ?_
      obtain ⟨c, hc, hb⟩ := h
      rcases List.mem_cons.mp hc with e | e
      · subst e; exact absurd hb hd
      · exact ⟨c, e, hb⟩
theorem pk_lN {l : List Int32} (hv : ∀ c ∈ l, vc c = true) (hl : l.length ≤ 10) : pk l = lN (pkM l) ∧ pkM l < 2 ^ 60 := by
  have hp : 64 ^ l.length ≤ 2 ^ 60 := by
    have := Nat.pow_le_pow_right (n := 64) (by decide) hl
    exact Nat.le_trans this (by decide)
  refine ⟨?_, Nat.lt_of_lt_of_le (pkM_lt l hv) hp⟩
  unfold pk
  rw [if_neg (by omega), show (0 : Int64) = lN 0 from rfl, pkR_N _ 0 (fun c hc => hv c (by simpa using hc)) (by rw [List.length_reverse]; omega), pkN_rev]
def vl (l : List Int32) : Bool := l.all vc && decide (l.length ≤ 10) && decide (l ≠ [])
theorem pkn_eq {a b : List Int32} (ha : ∀ c ∈ a, isPl c = true) (hb : vl b = true) : pk a = pk b ↔ a = b := by
  refine ⟨fun h => ?_, fun h => by rw [h]⟩
  simp only [vl, Bool.and_eq_true, decide_eq_true_eq, List.all_eq_true] at hb
  obtain ⟨⟨hb1, hb2⟩, hb3⟩ := hb
  obtain ⟨e1, e2⟩ := pk_lN hb1 hb2
  have hpos := pkM_pos b hb3 hb1
  have hne : pk b ≠ 0 := by
    rw [e1, show (0 : Int64) = lN 0 from rfl]
    intro z
    have := congrArg Int64.toInt z
    rw [lN_ti (by omega), lN_ti (by omega)] at this
    omega
  have hl : a.length ≤ 10 := by
    refine Nat.le_of_not_lt (fun z => hne ?_)
    rw [← h]
    unfold pk
    rw [if_pos z]
  have hv : ∀ c ∈ a, vc c = true := by
    intro c hc
    unfold vc
    rw [ha c hc, Bool.and_true, Bool.not_eq_true']
    cases hp : pBad c with
    | false => rfl
    | true =>
      refine absurd ?_ hne
      rw [← h]
      unfold pk
      rw [if_neg (by omega)]
      exact pkR_bad _ _ ⟨c, by simpa using hc, hp⟩
  obtain ⟨f1, f2⟩ := pk_lN hv hl
  rw [e1, f1] at h
  have := congrArg Int64.toInt h
  rw [lN_ti (by omega), lN_ti (by omega)] at this
  exact pkM_inj a b hv hb1 (by omega)
/-! registers -/
def reg3 (c n : Int32) : Int32 := if c = 120 then (if 32 ≤ n then -1 else n) else if c = 97 then (if 8 ≤ n then -1 else 10 + n) else if c = 116 then (if 3 ≤ n then (if 7 ≤ n then -1 else 25 + n) else 5 + n) else if c = 115 then (if 2 ≤ n then (if 12 ≤ n then -1 else 16 + n) else 8 + n) else -1
def regR (nm : List Int32) : Int32 :=
  if pk nm = 4006234 then 0 else if pk nm = 82 then 1 else if pk nm = 1043 then 2 else if pk nm = 1031 then 3 else if pk nm = 1044 then 4 else if pk nm = 1030 then 8 else
  if nm.length = 2 ∨ nm.length = 3 then (if isDg (nm.getD 1 0) = true then reg3 (nm.getD 0 0) (if nm.length = 3 then (if nm.getD 1 0 - 48 = 0 then 99 else if isDg (nm.getD 2 0) = true then (10 * (nm.getD 1 0 - 48) + nm.getD 2 0) - 48 else 99) else nm.getD 1 0 - 48) else -1) else -1
theorem lg_0 (x y : Int64) : (lg_cmp x y = 0) = (x = y) := by
  refine propext ⟨lg_eq0, fun h => ?_⟩
  subst h
  unfold lg_cmp
  rw [if_neg Int64.lt_irrefl, if_pos rfl]
theorem M_register_eq {σ : MS} {X : List Int32} {N : Nat} (T : TX σ (tw X) X.length) (hN : 20 < N) {p e : Nat} (hp : p ≤ e) (he : e ≤ X.length) : M_register N (nI p) (nI e) σ = some (regR (cut X p e)) := by
  have hn := T.small
  have hcl := cut_len X (p := p) he
  have g : ∀ i, i < e - p → X.getD (p + i) 0 = (cut X p e).getD i 0 := fun i hi => (cut_getD X hi).symm
  unfold M_register
  rw [M_packed_eq T hN hp he]
  simp only [cr, Option.bind_some, lg_0]
  unfold regR
  generalize hnm : cut X p e = nm at hcl g ⊢
  by_cases z1 : pk nm = 4006234
  · rw [if_pos z1, if_pos z1]
  rw [if_neg z1, if_neg z1]
  by_cases z2 : pk nm = 82
  · rw [if_pos z2, if_pos z2]
  rw [if_neg z2, if_neg z2]
  by_cases z3 : pk nm = 1043
  · rw [if_pos z3, if_pos z3]
  rw [if_neg z3, if_neg z3]
  by_cases z4 : pk nm = 1031
  · rw [if_pos z4, if_pos z4]
  rw [if_neg z4, if_neg z4]
  by_cases z5 : pk nm = 1044
  · rw [if_pos z5, if_pos z5]
  rw [if_neg z5, if_neg z5]
  by_cases z6 : pk nm = 1030
  · rw [if_pos z6, if_pos z6]
  rw [if_neg z6, if_neg z6, pk_sub hp, hcl]
  by_cases l1 : e - p < 2
  · rw [if_pos (by rw [show (2 : Int32) = nI 2 from rfl, nI_ltI (by omega) (by omega)]; omega), if_neg (by omega)]
    rfl
  rw [if_neg (by rw [show (2 : Int32) = nI 2 from rfl, nI_ltI (by omega) (by omega)]; omega)]
  by_cases l2 : 3 < e - p
  · rw [if_pos (by rw [show (3 : Int32) = nI 3 from rfl, nI_ltI (by omega) (by omega)]; omega), if_neg (by omega)]
    rfl
  have a1 : σ.2 1 (p + 1) = nm.getD 1 0 := (T.text (p + 1) (by omega)).trans (g 1 (by omega))
  have a0 : σ.2 1 p = nm.getD 0 0 := (T.text p (by omega)).trans (g 0 (by omega))
  have r161 : ∀ n, M_register_161 N (nI p) n σ = some (reg3 (nm.getD 0 0) n) := by
    intro n
    unfold M_register_161 M_register_189 M_register_213 M_register_250 M_register_292 reg3
    rw [gd_t (inB_nI (by omega) (by omega)), nI_clamp (by omega), a0]
    repeat' split
    all_goals rfl
  rw [if_neg (by rw [show (3 : Int32) = nI 3 from rfl, nI_ltI (by omega) (by omega)]; omega), if_pos (by omega), nI_1, gd_t (inB_nI (by omega) (by omega)), nI_clamp (by omega), a1, M_isDigit_eq]
  simp only [Option.bind_some, b2_0]
  by_cases d1 : isDg (nm.getD 1 0) = true
  · rw [if_neg (by rw [d1]; decide), if_pos d1, gd_t (inB_nI (by omega) (by omega))]
    simp only [bnd]
    by_cases l3 : e - p = 3
    · rw [if_pos (by rw [l3]; rfl), if_pos l3]
      by_cases d0 : nm.getD 1 0 - 48 = 0
      · rw [if_pos d0, if_pos d0]
        exact r161 99
      · have a2 : σ.2 1 (p + 2) = nm.getD 2 0 := (T.text (p + 2) (by omega)).trans (g 2 (by omega))
        rw [if_neg d0, if_neg d0, show nI p + 2 = nI (p + 2) from nI_add p 2, gd_t (inB_nI (by omega) (by omega)), nI_clamp (by omega), a2, M_isDigit_eq]
        simp only [Option.bind_some, b2_0]
        by_cases d2 : isDg (nm.getD 2 0) = true
        · rw [if_neg (by rw [d2]; decide), if_pos d2, gd_t (inB_nI (by omega) (by omega))]
          exact r161 _
        · rw [if_pos (by simpa using d2), if_neg d2]
          exact r161 99
    · rw [if_neg (by rw [show (3 : Int32) = nI 3 from rfl, nI_eq (by omega) (by omega)]; exact l3), if_neg l3]
      exact r161 _
  · rw [if_pos (by simpa using d1), if_neg d1]
    rfl
theorem OpP_mk {N : Nat} {X : List Int32} {σ0 : MS} (hN : 20 < N) (T0 : TX σ0 (tw X) X.length) : OpP N X σ0 := by
  intro a σ hTF hk hF
  obtain ⟨h1, h2, h3, h4⟩ := hTF
  obtain ⟨g1, g2, g3, g4, g5⟩ := h4 hk
  have hpl : ∀ c ∈ a.nm, isPl c = true := by
    rw [g1]
    exact cut_pl X (by omega) (by omega)
  refine ⟨pk a.nm, ?_, ?_, ?_⟩
  · rw [M_packed_eq (hF.tx T0) hN (by omega) h3, g1]
  · rw [show (584 : Int64) = pk hiB from by decide +kernel]
    exact pkn_eq hpl (by decide)
  · rw [show (972 : Int64) = pk loB from by decide +kernel]
    exact pkn_eq hpl (by decide)
