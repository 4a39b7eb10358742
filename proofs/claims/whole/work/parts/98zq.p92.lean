/-! ===== rows: bytes are put, ranges are filled ===== -/
def wr : List Int32 → Nat → List Int32 → List Int32
  | l, _, [] => l
  | l, a, b :: bs => wr (l.set a b) (a + 1) bs
theorem wr_len : ∀ (bs l : List Int32) (a : Nat), (wr l a bs).length = l.length
  | [], l, a => rfl
  | b :: bs, l, a => by rw [wr, wr_len, List.length_set]
theorem wr_at : ∀ (bs l : List Int32) (a p : Nat), p < l.length → (wr l a bs).getD p 0 = if a ≤ p ∧ p < a + bs.length then bs.getD (p - a) 0 else l.getD p 0
  | [], l, a, p, _ => by rw [wr, if_neg (fun z => by have := z.2; simp only [List.length_nil] at this; omega)]
  | b :: bs, l, a, p, hp => by
    rw [wr, wr_at bs _ _ _ (by rw [List.length_set]; exact hp)]
    simp only [List.length_cons]
    by_cases h1 : a + 1 ≤ p ∧ p < a + 1 + bs.length
    · rw [if_pos h1, if_pos (by omega), show p - a = (p - (a + 1)) + 1 by omega]
      rfl
    · rw [if_neg h1]
      by_cases h2 : p = a
      · rw [if_pos (by omega), h2, Nat.sub_self, gs_e b (by omega)]
        rfl
      · rw [if_neg (by omega), gs_o b h2]
theorem wr_app : ∀ (bs cs l : List Int32) (a : Nat), wr (wr l a bs) (a + bs.length) cs = wr l a (bs ++ cs)
  | [], cs, l, a => rfl
  | b :: bs, cs, l, a => by
    rw [wr, List.cons_append, wr, ← wr_app bs cs, List.length_cons, show a + (bs.length + 1) = a + 1 + bs.length by omega]
/-- of the encoder only its first row has changed, and no length -/
def EF (sE sE' : CS) : Prop := rg sE' 1 = rg sE 1 ∧ sE'.1 0 = sE.1 0 ∧ sE'.2.2 = sE.2.2
theorem EF.rf (sE : CS) : EF sE sE := ⟨rfl, rfl, rfl⟩
theorem EF.tr {a b c : CS} (h1 : EF a b) (h2 : EF b c) : EF a c := ⟨h2.1.trans h1.1, h2.2.1.trans h1.2.1, h2.2.2.trans h1.2.2⟩
theorem rs_caps {σ u : CS} {r : Nat} (h : u.2.2 = (rg σ r).2.2) : (rs σ r u).2.2 = σ.2.2 := by
  funext q
  have : u.2.2 0 = σ.2.2 r := by rw [h]; rfl
  unfold rs
  simp only []
  split
  · rename_i hq; rw [hq]; exact this
  · rfl
theorem EF_set {sE : CS} {l : List Int32} (h : RowL (rg sE 0) l) {k : Nat} (hk : k < 2 ^ 31) (v : Int32) : ∃ u, C_Row_set (nI k) v (rg sE 0) = some (0, u) ∧ RowL (rg (rs sE 0 u) 0) (l.set k v) ∧ EF sE (rs sE 0 u) := by
  obtain ⟨u, p1, p2, p3⟩ := C_Row_set_eq h k hk v
  exact ⟨u, p1, RowL_rs p2, rg_rs (by decide), rs_num (by decide), rs_caps p3⟩
section
variable {N : Nat} {sY sF sN sT sP sI : CS}
theorem C_put3 (w : Int32) {at' n : Nat} (hn : n ≤ 16) (hat : at' < 2 ^ 30) : ∀ (i j m : Nat) (l : List Int32) (sE : CS), j + i = n → i < m → RowL (rg sE 0) l → ∃ sE', C_Enc_put_3 N m (nI at') w (nI n) (nI j) sE sY sF sN sT sP sI = some (0, sE') ∧ RowL (rg sE' 0) (wr l (at' + j) ((List.range' j i).map (byt w))) ∧ EF sE sE' := by
  intro i
  induction i with
  | zero =>
    intro j m l sE hj hm hR
    obtain ⟨m', rfl⟩ : ∃ m', m = m' + 1 := ⟨m - 1, by omega⟩
    simp only [C_Enc_put_3]
    rw [if_pos (by rw [show j = n by omega]; exact Int32.le_refl _)]
    exact ⟨sE, rfl, hR, EF.rf _⟩
  | succ i ih =>
    intro j m l sE hj hm hR
    obtain ⟨m', rfl⟩ : ∃ m', m = m' + 1 := ⟨m - 1, by omega⟩
    simp only [C_Enc_put_3]
    rw [if_neg (fun z => absurd ((nI_leI (by omega) (by omega)).mp z) (by omega)), nI_add]
    obtain ⟨u, p1, p2, p3⟩ := EF_set hR (k := at' + j) (by omega) ((w >>> ((8 * nI j) &&& 31)) &&& 255)
    rw [p1]
    simp only [cl, bnd, Option.bind_some]
    rw [show nI j + 1 = nI (j + 1) from nI_add j 1]
    obtain ⟨sE', q1, q2, q3⟩ := ih (j + 1) m' _ _ (by omega) (by omega) p2
    refine ⟨sE', q1, ?_, p3.tr q3⟩
    rw [List.range'_succ, List.map_cons, wr]
    exact q2
theorem C_put (hN : 70000 < N) (w : Int32) {at' n : Nat} (hn : n ≤ 16) (hat : at' < 2 ^ 30) {l : List Int32} {sE : CS} (hR : RowL (rg sE 0) l) : ∃ sE', C_Enc_put N (nI at') w (nI n) sE sY sF sN sT sP sI = some (0, sE') ∧ RowL (rg sE' 0) (wr l at' (wB w n)) ∧ EF sE sE' := by
  obtain ⟨sE', q1, q2, q3⟩ := C_put3 (N := N) (sY := sY) (sF := sF) (sN := sN) (sT := sT) (sP := sP) (sI := sI) w hn hat n 0 N l sE (by omega) (by omega) hR
  refine ⟨sE', q1, ?_, q3⟩
  rw [Nat.add_zero, ← List.range_eq_range'] at q2
  exact q2
/-- letters, and the zero behind them -/
theorem C_let {sI0 : CS} {n1 at' : Nat} (hcap : n1 < sI.2.2 0 + 1) {Y : List Int32} (hY : RowL sY Y) {wd len : Nat} (h3 : sI.2.1 n1 3 = nI wd) (h4 : sI.2.1 n1 4 = nI len) (hw : wd + len < 2 ^ 30) (hat : at' + len < 2 ^ 30) : ∀ (i j m : Nat) (l : List Int32) (sE : CS), j + i = len → i < m → RowL (rg sE 0) l → ∃ sE', C_Enc_encode_44 N m n1 (nI at') (nI j) sE sY sF sN sT sP sI = some ((0, (sE', sF)), (0, 0)) ∧ RowL (rg sE' 0) (wr l (at' + j) ((List.range' j i).map (fun q => Y.getD (wd + q) 0))) ∧ EF sE sE' := by
  intro i
  induction i with
  | zero =>
    intro j m l sE hj hm hR
    obtain ⟨m', rfl⟩ : ∃ m', m = m' + 1 := ⟨m - 1, by omega⟩
    simp only [C_Enc_encode_44]
    rw [gd_t (decide_eq_true hcap), h4, if_pos (by rw [show j = len by omega]; exact Int32.le_refl _)]
    exact ⟨sE, rfl, hR, EF.rf _⟩
  | succ i ih =>
    intro j m l sE hj hm hR
    obtain ⟨m', rfl⟩ : ∃ m', m = m' + 1 := ⟨m - 1, by omega⟩
    simp only [C_Enc_encode_44]
    rw [gd_t (decide_eq_true hcap), h4, if_neg (fun z => absurd ((nI_leI (by omega) (by omega)).mp z) (by omega)), gd_t (decide_eq_true hcap), h3, nI_add, nI_add, C_get hY (by omega)]
    simp only [cr, Option.bind_some]
    obtain ⟨u, p1, p2, p3⟩ := EF_set hR (k := at' + j) (by omega) (Y.getD (wd + j) 0)
    rw [p1]
    simp only [cl, bnd, Option.bind_some]
    rw [show nI j + 1 = nI (j + 1) from nI_add j 1]
    obtain ⟨sE', q1, q2, q3⟩ := ih (j + 1) m' _ _ (by omega) (by omega) p2
    refine ⟨sE', q1, ?_, p3.tr q3⟩
    rw [List.range'_succ, List.map_cons, wr]
    exact q2
theorem C_fill10 (v : Int32) {to : Nat} (hto : to < 2 ^ 30) : ∀ (i j m : Nat) (s : CS), j + i = to → i < m → to ≤ s.2.2 0 → ∃ s', C_Arr_fill_10 N m (nI to) v (nI j) s = some (0, s') ∧ s'.2.2 = s.2.2 ∧ s'.1 = s.1 ∧ ∀ p, s'.2.1 0 p = if j ≤ p ∧ p < to then v else s.2.1 0 p := by
  intro i
  induction i with
  | zero =>
    intro j m s hj hm hc
    obtain ⟨m', rfl⟩ : ∃ m', m = m' + 1 := ⟨m - 1, by omega⟩
    simp only [C_Arr_fill_10]
    rw [if_pos (by rw [show j = to by omega]; exact Int32.le_refl _)]
    exact ⟨s, rfl, rfl, rfl, fun p => by rw [if_neg (by omega)]⟩
  | succ i ih =>
    intro j m s hj hm hc
    obtain ⟨m', rfl⟩ : ∃ m', m = m' + 1 := ⟨m - 1, by omega⟩
    simp only [C_Arr_fill_10]
    have hin : inB (nI j) (s.2.2 0) = true := by
      unfold inB
      rw [decide_eq_false (nI_pos (by omega)), nI_clamp (by omega), decide_eq_true (by omega)]
      rfl
    rw [if_neg (fun z => absurd ((nI_leI (by omega) (by omega)).mp z) (by omega)), gd_t hin, nI_clamp (by omega)]
    simp only [bnd]
    rw [show nI j + 1 = nI (j + 1) from nI_add j 1]
    obtain ⟨s', q1, q2, q3, q4⟩ := ih (j + 1) m' (cA s 0 j v) (by omega) (by omega) hc
    refine ⟨s', q1, q2, q3, fun p => ?_⟩
    rw [q4 p]
    by_cases h1 : j + 1 ≤ p ∧ p < to
    · rw [if_pos h1, if_pos (by omega)]
    · rw [if_neg h1]
      by_cases h2 : p = j
      · rw [h2, cA_at, if_pos (by omega)]
      · rw [cA_f _ _ h2, if_neg (by omega)]
end
