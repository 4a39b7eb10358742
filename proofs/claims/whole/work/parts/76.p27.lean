/-! ===== fields: the class's, and the reference's beside them ===== -/
def rb (mk n : Int32) : Int32 := if mk = 65 then (if 8 ≤ n ∧ n ≤ 15 then (n - 8) <<< ((7 : Int32) &&& 31) else -1) else if mk = 68 then (if 8 ≤ n ∧ n ≤ 15 then (n - 8) <<< ((2 : Int32) &&& 31) else -1) else if mk = 97 then n <<< ((15 : Int32) &&& 31) else if mk = 98 then n <<< ((20 : Int32) &&& 31) else if mk = 100 then n <<< ((7 : Int32) &&& 31) else if mk = 108 then (if n = 2 then -1 else n <<< ((7 : Int32) &&& 31)) else if mk = 109 then (if n = 0 then -1 else n <<< ((2 : Int32) &&& 31)) else if mk = 110 then (if n = 0 then -1 else n <<< ((7 : Int32) &&& 31)) else if mk = 115 then n <<< ((2 : Int32) &&& 31) else -1
theorem C_rb (mk n : Int32) : C_Fie_registerBits mk n = some (rb mk n) := by
  unfold C_Fie_registerBits C_Fie_registerBits_16 C_Fie_registerBits_17 C_Fie_registerBits_188 C_Fie_registerBits_172 C_Fie_registerBits_145 C_Fie_registerBits_157 C_Fie_registerBits_131 rb
  by_cases c1 : n < 8
  · have : ¬ (8 ≤ n ∧ n ≤ 15) := fun z => absurd c1 (Int32.not_lt.mpr z.1)
    simp only [c1, this, if_true, if_false]
    repeat' split
    all_goals rfl
  · by_cases c2 : 15 < n
    · have : ¬ (8 ≤ n ∧ n ≤ 15) := fun z => absurd c2 (Int32.not_lt.mpr z.2)
      simp only [c1, c2, this, if_true, if_false]
      repeat' split
      all_goals rfl
    · have : 8 ≤ n ∧ n ≤ 15 := ⟨Int32.not_lt.mp c1, Int32.not_lt.mp c2⟩
      simp only [c1, c2, this, if_true, if_false, and_self, show ¬ ((1 : Int32) = 0) from by decide]
      repeat' split
      all_goals rfl
def inW (v lo hi st : Int32) : Bool := !(decide (v < lo)) && !(decide (hi < v)) && decide (v &&& (st - 1) = 0)
theorem C_inW (v lo hi st : Int32) : C_Fie_isWithin v lo hi st = some (b2 (inW v lo hi st)) := by
  unfold C_Fie_isWithin C_Fie_isWithin_22 C_Fie_isWithin_23 inW
  by_cases c1 : v < lo <;> by_cases c2 : hi < v <;> by_cases c3 : v &&& (st - 1) = 0 <;> simp [c1, c2, c3, gd, isB, b2]
def fitB (mk v : Int32) : Bool := if mk = 52 then inW v 4 1020 4 else if mk = 54 then (inW v (-512) 496 16 && !(decide (v = 0))) else if mk = 66 then inW v (-256) 254 2 else if mk = 72 then inW v 0 31 1 else if mk = 74 then inW v (-2048) 2046 2 else if mk = 76 then inW v 0 252 4 else if mk = 78 then inW v (-32) 31 1 else if mk = 83 then inW v 0 252 4 else if mk = 85 then (inW v (-32) 31 1 && !(decide (v = 0))) else if mk = 104 then inW v 0 31 1 else if mk = 105 then inW v (-2048) 2047 1 else if mk = 106 then inW v (-1048576) 1048574 2 else if mk = 111 then inW v (-2048) 2047 1 else if mk = 116 then inW v (-4096) 4094 2 else if mk = 117 then inW v 0 1048575 1 else if mk = 119 then inW v 0 124 4 else true
theorem cr_b2 (b : Bool) : cr (some (b2 b)) (fun r => gd (isB r) (some r)) = some (b2 b) := by cases b <;> rfl
theorem cr_b3 (b : Bool) (v : Int32) : cr (some (b2 b)) (fun r => (if r = 0 then (gd (isB 0) (some (0 : Int32))) else (if v = 0 then (gd (isB 0) (some (0 : Int32))) else (gd (isB 1) (some (1 : Int32)))))) = some (b2 (b && !(decide (v = 0)))) := by
  cases b
  · rfl
  · by_cases h : v = 0
    · rw [decide_eq_true h]; simp only [cr, Option.bind_some]; rw [if_neg (by decide), if_pos h]; rfl
    · rw [decide_eq_false h]; simp only [cr, Option.bind_some]; rw [if_neg (by decide), if_neg h]; rfl
theorem C_fits (mk v : Int32) : C_Fie_fits mk v = some (b2 (fitB mk v)) := by
  unfold C_Fie_fits C_Fie_fits_438 C_Fie_fits_439 C_Fie_fits_300 C_Fie_fits_440 C_Fie_fits_394 C_Fie_fits_395 C_Fie_fits_288 fitB
  simp only [C_inW, cr_b2, cr_b3]
  by_cases c52 : mk = 52
  · rw [if_pos c52, if_pos c52]
  rw [if_neg c52, if_neg c52]
  by_cases c54 : mk = 54
  · rw [if_pos c54, if_pos c54]
  rw [if_neg c54, if_neg c54]
  by_cases c66 : mk = 66
  · rw [if_pos c66, if_pos c66]
  rw [if_neg c66, if_neg c66]
  by_cases c72 : mk = 72
  · rw [if_pos c72, if_pos c72]
  rw [if_neg c72, if_neg c72]
  by_cases c74 : mk = 74
  · rw [if_pos c74, if_pos c74]
  rw [if_neg c74, if_neg c74]
  by_cases c76 : mk = 76
  · rw [if_pos c76, if_pos c76]
  rw [if_neg c76, if_neg c76]
  by_cases c78 : mk = 78
  · rw [if_pos c78, if_pos c78]
  rw [if_neg c78, if_neg c78]
  by_cases c83 : mk = 83
  · rw [if_pos c83, if_pos c83]
  rw [if_neg c83, if_neg c83]
  by_cases c85 : mk = 85
  · rw [if_pos c85, if_pos c85]
  rw [if_neg c85, if_neg c85]
  by_cases c104 : mk = 104
  · rw [if_pos c104, if_pos c104]
  rw [if_neg c104, if_neg c104]
  by_cases c105 : mk = 105
  · rw [if_pos c105, if_pos c105]
  rw [if_neg c105, if_neg c105]
  by_cases c106 : mk = 106
  · rw [if_pos c106, if_pos c106]
  rw [if_neg c106, if_neg c106]
  by_cases c111 : mk = 111
  · rw [if_pos c111, if_pos c111]
  rw [if_neg c111, if_neg c111]
  by_cases c116 : mk = 116
  · rw [if_pos c116, if_pos c116]
  rw [if_neg c116, if_neg c116]
  by_cases c117 : mk = 117
  · rw [if_pos c117, if_pos c117]
  rw [if_neg c117, if_neg c117]
  by_cases c119 : mk = 119
  · rw [if_pos c119, if_pos c119]
  rw [if_neg c119, if_neg c119]
  rfl
def pic (v a b c : Int32) : Int32 := ((v >>> (a &&& 31)) &&& ((1 <<< (b &&& 31)) - 1)) <<< (c &&& 31)
def scat (mk v : Int32) : Int32 := if mk = 104 then v <<< ((20 : Int32) &&& 31) else if mk = 105 then v <<< ((20 : Int32) &&& 31) else if mk = 106 then ((pic v 20 1 31 ||| pic v 1 10 21) ||| pic v 11 1 20) ||| pic v 12 8 12 else if mk = 111 then pic v 5 7 25 ||| pic v 0 5 7 else if mk = 116 then ((pic v 12 1 31 ||| pic v 5 6 25) ||| pic v 1 4 8) ||| pic v 11 1 7 else if mk = 117 then v <<< ((12 : Int32) &&& 31) else if mk = 52 then ((pic v 4 2 11 ||| pic v 6 4 7) ||| pic v 2 1 6) ||| pic v 3 1 5 else if mk = 54 then (((pic v 9 1 12 ||| pic v 4 1 6) ||| pic v 6 1 5) ||| pic v 7 2 3) ||| pic v 5 1 2 else if mk = 66 then (((pic v 8 1 12 ||| pic v 3 2 10) ||| pic v 6 2 5) ||| pic v 1 2 3) ||| pic v 5 1 2 else if mk = 72 then v <<< ((2 : Int32) &&& 31) else if mk = 74 then ((((((pic v 11 1 12 ||| pic v 4 1 11) ||| pic v 8 2 9) ||| pic v 10 1 8) ||| pic v 6 1 7) ||| pic v 7 1 6) ||| pic v 1 3 3) ||| pic v 5 1 2 else if mk = 76 then (pic v 5 1 12 ||| pic v 2 3 4) ||| pic v 6 2 2 else if mk = 78 then pic v 5 1 12 ||| pic v 0 5 2 else if mk = 83 then pic v 2 4 9 ||| pic v 6 2 7 else if mk = 85 then pic v 5 1 12 ||| pic v 0 5 2 else if mk = 119 then (pic v 3 3 10 ||| pic v 2 1 6) ||| pic v 6 1 5 else v
theorem C_scat (mk v : Int32) : C_Fie_scatter mk v = some (scat mk v) := by
  have hp : ∀ a b c, C_Fie_pick v a b c = some (pic v a b c) := fun _ _ _ => rfl
  unfold C_Fie_scatter C_Fie_scatter_72 C_Fie_scatterShort C_Fie_scatterShort_92 scat
  simp only [hp, cr, Option.bind_some]
  by_cases c104 : mk = 104
  · rw [if_pos c104, if_pos c104]
  rw [if_neg c104, if_neg c104]
  by_cases c105 : mk = 105
  · rw [if_pos c105, if_pos c105]
  rw [if_neg c105, if_neg c105]
  by_cases c106 : mk = 106
  · rw [if_pos c106, if_pos c106]
  rw [if_neg c106, if_neg c106]
  by_cases c111 : mk = 111
  · rw [if_pos c111, if_pos c111]
  rw [if_neg c111, if_neg c111]
  by_cases c116 : mk = 116
  · rw [if_pos c116, if_pos c116]
  rw [if_neg c116, if_neg c116]
  by_cases c117 : mk = 117
  · rw [if_pos c117, if_pos c117]
  rw [if_neg c117, if_neg c117]
  by_cases c52 : mk = 52
  · rw [if_pos c52, if_pos c52]; rfl
  rw [if_neg c52, if_neg c52]
  by_cases c54 : mk = 54
  · rw [if_pos c54, if_pos c54]; rfl
  rw [if_neg c54, if_neg c54]
  by_cases c66 : mk = 66
  · rw [if_pos c66, if_pos c66]; rfl
  rw [if_neg c66, if_neg c66]
  by_cases c72 : mk = 72
  · rw [if_pos c72, if_pos c72]; rfl
  rw [if_neg c72, if_neg c72]
  by_cases c74 : mk = 74
  · rw [if_pos c74, if_pos c74]; rfl
  rw [if_neg c74, if_neg c74]
  by_cases c76 : mk = 76
  · rw [if_pos c76, if_pos c76]; rfl
  rw [if_neg c76, if_neg c76]
  by_cases c78 : mk = 78
  · rw [if_pos c78, if_pos c78]; rfl
  rw [if_neg c78, if_neg c78]
  by_cases c83 : mk = 83
  · rw [if_pos c83, if_pos c83]; rfl
  rw [if_neg c83, if_neg c83]
  by_cases c85 : mk = 85
  · rw [if_pos c85, if_pos c85]; rfl
  rw [if_neg c85, if_neg c85]
  by_cases c119 : mk = 119
  · rw [if_pos c119, if_pos c119]; rfl
  rw [if_neg c119, if_neg c119]
  rfl
def len0 (mk w : Int32) : Int32 := if mk = 64 then 8 else if mk = 120 then 2 else if mk = 122 then (if (w >>> ((15 : Int32) &&& 31)) &&& 24 = 8 then 2 else 4) else if w &&& 3 = 3 then 4 else 2
theorem C_len0 (mk w : Int32) : C_Fie_firstLength mk w = some (len0 mk w) := by
  unfold C_Fie_firstLength C_Fie_firstLength_55 C_Fie_firstLength_71 len0
  repeat' split
  all_goals rfl
def lenM (mk : Int32) : Int32 := if mk = 120 then 4 else if mk = 122 then 8 else if mk = 116 then 8 else 0
theorem C_lenM (mk : Int32) : C_Fie_lastLength mk = some (lenM mk) := by
  unfold C_Fie_lastLength C_Fie_lastLength_22 C_Fie_lastLength_28 lenM
  repeat' split
  all_goals rfl
def mkF (mk l : Int32) : Int32 := if mk = 116 then (if l = 2 then 66 else if l = 4 then 116 else 106) else if mk = 120 then (if l = 2 then 74 else 106) else if mk = 122 then (if l = 2 then 66 else if l = 4 then 116 else 106) else mk
theorem C_mkF (mk l : Int32) : C_Fie_markFor mk l = some (mkF mk l) := by
  unfold C_Fie_markFor C_Fie_markFor_49 C_Fie_markFor_71 C_Fie_markFor_48 mkF
  repeat' split
  all_goals rfl
/-- the reference's bits are the class's picks -/
theorem jush_and (v : Int32) {c M : Int32} (k n : Nat) (h1 : ((c.toUInt32 &&& Int32.toUInt32 31).toBitVec % 32).toNat = k) (h2 : ((c &&& 31).toBitVec.smod 32).toNat = k) (hM : M.toBitVec.toNat = 2 ^ n - 1) (hkn : k + n ≤ 32) : jush v c &&& M = (v >>> (c &&& 31)) &&& M := by
  apply Int32.toBitVec_inj.mp
  rw [Int32.toBitVec_and, Int32.toBitVec_and, Int32.toBitVec_shiftRight, BitVec.sshiftRight_eq', h2]
  have e1 : (jush v c).toBitVec = v.toBitVec >>> k := by
    unfold jush
    show (v.toUInt32 >>> (c.toUInt32 &&& Int32.toUInt32 31)).toBitVec = _
    rw [UInt32.toBitVec_shiftRight, BitVec.ushiftRight_eq', h1]
    rfl
  rw [e1]
  apply BitVec.eq_of_getLsbD_eq
  intro i hi
  have hm : M.toBitVec.getLsbD i = decide (i < n) := by
    rw [BitVec.getLsbD, hM, Nat.testBit_two_pow_sub_one]
  rw [BitVec.getLsbD_and, BitVec.getLsbD_and, hm]
  by_cases hin : i < n
  · rw [BitVec.getLsbD_ushiftRight, BitVec.getLsbD_sshiftRight, if_pos (by omega)]
    simp [show ¬ 32 ≤ i by omega]
  · rw [decide_eq_false hin, Bool.and_false, Bool.and_false]
theorem bits_pic (v : Int32) {hi lo to b : Int32} (k n : Nat) (hb : ((hi - lo) + 1) &&& 31 = b &&& 31) (h1 : ((lo.toUInt32 &&& Int32.toUInt32 31).toBitVec % 32).toNat = k) (h2 : ((lo &&& 31).toBitVec.smod 32).toNat = k) (hM : (((1 : Int32) <<< (b &&& 31)) - 1).toBitVec.toNat = 2 ^ n - 1) (hkn : k + n ≤ 32) : M_bits v hi lo to = some (pic v lo b to) := by
  unfold M_bits pic
  rw [hb, jush_and v k n h1 h2 hM hkn]
theorem M_branchBits_eq (v : Int32) : M_branchBits v = some (scat 116 v) := by
  unfold M_branchBits
  rw [bits_pic v (b := 1) 12 1 (by decide) (by decide) (by decide) (by decide) (by decide), bits_pic v (b := 6) 5 6 (by decide) (by decide) (by decide) (by decide) (by decide), bits_pic v (b := 4) 1 4 (by decide) (by decide) (by decide) (by decide) (by decide), bits_pic v (b := 1) 11 1 (by decide) (by decide) (by decide) (by decide) (by decide)]
  rfl
theorem M_jumpBits_eq (v : Int32) : M_jumpBits v = some (scat 106 v) := by
  unfold M_jumpBits
  rw [bits_pic v (b := 1) 20 1 (by decide) (by decide) (by decide) (by decide) (by decide), bits_pic v (b := 10) 1 10 (by decide) (by decide) (by decide) (by decide) (by decide), bits_pic v (b := 1) 11 1 (by decide) (by decide) (by decide) (by decide) (by decide), bits_pic v (b := 8) 12 8 (by decide) (by decide) (by decide) (by decide) (by decide)]
  rfl
theorem M_shortJump_eq (v : Int32) : M_shortJump v = some (scat 74 v) := by
  unfold M_shortJump
  rw [bits_pic v (b := 1) 11 1 (by decide) (by decide) (by decide) (by decide) (by decide), bits_pic v (b := 1) 4 1 (by decide) (by decide) (by decide) (by decide) (by decide), bits_pic v (b := 2) 8 2 (by decide) (by decide) (by decide) (by decide) (by decide), bits_pic v (b := 1) 10 1 (by decide) (by decide) (by decide) (by decide) (by decide), bits_pic v (b := 1) 6 1 (by decide) (by decide) (by decide) (by decide) (by decide), bits_pic v (b := 1) 7 1 (by decide) (by decide) (by decide) (by decide) (by decide), bits_pic v (b := 3) 1 3 (by decide) (by decide) (by decide) (by decide) (by decide), bits_pic v (b := 1) 5 1 (by decide) (by decide) (by decide) (by decide) (by decide)]
  rfl
theorem M_shortBranch_eq (v : Int32) : M_shortBranch v = some (scat 66 v) := by
  unfold M_shortBranch
  rw [bits_pic v (b := 1) 8 1 (by decide) (by decide) (by decide) (by decide) (by decide), bits_pic v (b := 2) 3 2 (by decide) (by decide) (by decide) (by decide) (by decide), bits_pic v (b := 2) 6 2 (by decide) (by decide) (by decide) (by decide) (by decide), bits_pic v (b := 2) 1 2 (by decide) (by decide) (by decide) (by decide) (by decide), bits_pic v (b := 1) 5 1 (by decide) (by decide) (by decide) (by decide) (by decide)]
  rfl
theorem M_six_eq (v : Int32) : M_six v = some (scat 78 v) := by
  unfold M_six
  rw [bits_pic v (b := 1) 5 1 (by decide) (by decide) (by decide) (by decide) (by decide), bits_pic v (b := 5) 0 5 (by decide) (by decide) (by decide) (by decide) (by decide)]
  rfl
/-- a remainder is none where the low bits are none -/
theorem jrem_toInt (x : Int32) {y : Int32} (h0 : 0 < y.toInt) (h1 : y.toInt ≤ 65536) : (jrem x y).toInt = x.toInt.tmod y.toInt := by
  have hnz : y ≠ -1 := fun z => by rw [z] at h0; exact absurd h0 (by decide)
  have h3 := Int.tmod_add_tdiv_mul x.toInt y.toInt
  have h4 := Int.tmod_lt_of_pos x.toInt h0
  have h5 := Int.lt_tmod_of_pos x.toInt h0
  unfold jrem
  rw [Int32.toInt_sub, Int32.toInt_mul, Int32.toInt_div_of_ne_right x y hnz, Int.sub_bmod_bmod]
  rw [show x.toInt - x.toInt.tdiv y.toInt * y.toInt = x.toInt.tmod y.toInt by omega]
  exact Int.bmod_eq_of_le (by omega) (by omega)
theorem dvd_and (x : Int32) {y : Int32} (k : Nat) (hk : k = 0 ∨ k = 1 ∨ k = 2 ∨ k = 4) (hy : y.toInt = (2 ^ k : Nat)) (hm : (y - 1).toBitVec.toNat = 2 ^ k - 1) : (jrem x y = 0) ↔ (x &&& (y - 1) = 0) := by
  have hP : (0 : Int) < (2 ^ k : Nat) ∧ ((2 ^ k : Nat) : Int) ≤ 65536 := by rcases hk with h | h | h | h <;> subst h <;> decide
  rw [pk_and x k hm, ← Int32.toInt_inj, jrem_toInt x (by rw [hy]; exact hP.1) (by rw [hy]; exact hP.2), hy, show (0 : Int32).toInt = 0 from rfl, ← Int.dvd_iff_tmod_eq_zero, show (0 : Int32) = nI 0 from rfl]
  have ht : x.toInt = if 2 * x.toBitVec.toNat < 2 ^ 32 then (x.toBitVec.toNat : Int) else (x.toBitVec.toNat : Int) - (2 ^ 32 : Nat) := by
    rw [← Int32.toInt_toBitVec, BitVec.toInt_eq_toNat_cond]
  have hlt := x.toBitVec.isLt
  generalize x.toBitVec.toNat = t at ht hlt ⊢
  have hmod : t % 2 ^ k < 2 ^ 31 := by
    refine Nat.lt_of_lt_of_le (Nat.mod_lt _ (Nat.two_pow_pos k)) ?_
    rcases hk with h | h | h | h <;> subst h <;> decide
  rw [nI_eq hmod (by decide), ht]
  rcases hk with h | h | h | h <;> subst h <;> (split <;> omega)
theorem fitR_in (v lo hi : Int32) {st : Int32} (k : Nat) (hk : k = 0 ∨ k = 1 ∨ k = 2 ∨ k = 4) (hy : st.toInt = (2 ^ k : Nat)) (hm : (st - 1).toBitVec.toNat = 2 ^ k - 1) : fitR v lo hi st = inW v lo hi st := by
  unfold fitR inW
  have h := dvd_and v k hk hy hm
  by_cases c : jrem v st = 0
  · rw [decide_eq_true c, decide_eq_true (h.mp c)]
  · rw [decide_eq_false c, decide_eq_false (fun z => c (h.mpr z))]
theorem fitR_1 (v lo hi : Int32) : fitR v lo hi 1 = inW v lo hi 1 := fitR_in v lo hi 0 (by simp) (by decide) (by decide)
theorem fitR_2 (v lo hi : Int32) : fitR v lo hi 2 = inW v lo hi 2 := fitR_in v lo hi 1 (by simp) (by decide) (by decide)
theorem fitR_4 (v lo hi : Int32) : fitR v lo hi 4 = inW v lo hi 4 := fitR_in v lo hi 2 (by simp) (by decide) (by decide)
theorem fitR_16 (v lo hi : Int32) : fitR v lo hi 16 = inW v lo hi 16 := fitR_in v lo hi 4 (by simp) (by decide) (by decide)
theorem in31 {v : Int32} (h : inW v 0 31 1 = true) : v &&& 31 = v := by
  simp only [inW, Bool.and_eq_true, Bool.not_eq_true', decide_eq_false_iff_not, decide_eq_true_eq] at h
  obtain ⟨k, -, k2, rfl⟩ := i_sub (a := 0) (b := 31) (Int32.not_lt.mp h.1.1) (Int32.not_lt.mp h.1.2) (by decide) (by decide)
  rw [nI_and (by omega) 5 (by decide)]
  congr 1
  omega
/-- what is set above the two low bits leaves them -/
theorem low2 (w b : Int32) {c : Int32} (k : Nat) (hk : (c.toBitVec.smod 32).toNat = k) (h2 : 2 ≤ k) : (w ||| b <<< c) &&& 3 = w &&& 3 := by
  apply Int32.toBitVec_inj.mp
  rw [Int32.toBitVec_and, Int32.toBitVec_or, Int32.toBitVec_and, Int32.toBitVec_shiftLeft, BitVec.shiftLeft_eq', hk]
  apply BitVec.eq_of_getLsbD_eq
  intro i hi
  have hm : (3 : Int32).toBitVec.getLsbD i = decide (i < 2) := by
    rw [BitVec.getLsbD, show (3 : Int32).toBitVec.toNat = 2 ^ 2 - 1 from by decide, Nat.testBit_two_pow_sub_one]
  rw [BitVec.getLsbD_and, BitVec.getLsbD_and, BitVec.getLsbD_or, hm, BitVec.getLsbD_shiftLeft]
  by_cases h : i < 2
  · simp [show i < k by omega]
  · rw [decide_eq_false h, Bool.and_false, Bool.and_false]
