/-! ===== the class's assemble() ===== -/
def KN (ns0 : List (List Int32)) (sN : CS) : Prop := (∃ d, d < ns0.length ∧ ns0.getD d [] = dotB ∧ sN.1 1 = nI d) ∧ (∃ d, d < ns0.length ∧ ns0.getD d [] = hiB ∧ sN.1 2 = nI d) ∧ (∃ d, d < ns0.length ∧ ns0.getD d [] = loB ∧ sN.1 3 = nI d) ∧ sN.1 4 = nI ns0.length
theorem KN.nq {ns0 : List (List Int32)} {a b : CS} (h : KN ns0 a) (e : ∀ j, 1 ≤ j → j < 100 → b.1 j = a.1 j) : KN ns0 b := by
  obtain ⟨⟨d1, a1, a2, a3⟩, ⟨d2, b1, b2, b3⟩, ⟨d3, c1, c2, c3⟩, h4⟩ := h
  exact ⟨⟨d1, a1, a2, by rw [e 1 (by omega) (by omega)]; exact a3⟩, ⟨d2, b1, b2, by rw [e 2 (by omega) (by omega)]; exact b3⟩, ⟨d3, c1, c2, by rw [e 3 (by omega) (by omega)]; exact c3⟩, by rw [e 4 (by omega) (by omega)]; exact h4⟩
theorem nq_num {a b : CS} (h : nq a = nq b) : ∀ j, 1 ≤ j → j < 100 → a.1 j = b.1 j := fun j _ hj => congrFun (congrArg Prod.snd h) ⟨j, hj⟩
theorem nq_cap {a b : CS} (h : nq a = nq b) : capN a = capN b := congrArg Prod.fst h
theorem KN.nms {ns0 ms : List (List Int32)} {so va op re od : List Int32} {sN : CS} (h : KN ns0 sN) (hN : NamL sN (ns0 ++ ms) [] so va op re od) : NmS sN (ns0 ++ ms) so va op re od := by
  obtain ⟨⟨d1, a1, a2, a3⟩, ⟨d2, b1, b2, b3⟩, ⟨d3, c1, c2, c3⟩, h4⟩ := h
  refine ⟨hN, ⟨d1, ?_, by rw [gD_l a1]; exact a2, a3⟩, ⟨d2, ?_, by rw [gD_l b1]; exact b2, b3⟩, ⟨d3, ?_, by rw [gD_l c1]; exact c2, c3⟩⟩ <;> (rw [List.length_append]; omega)
theorem C_forget {N : Nat} {ns0 ms : List (List Int32)} {so va op re od : List Int32} {sN : CS} (hN : 150000 < N) (h : NamL sN (ns0 ++ ms) [] so va op re od) (hK : KN ns0 sN) (hn0 : ns0.length < 60000) : ∃ sN', C_Nam_forget N sN = some (0, sN') ∧ NamL sN' ns0 [] (List.replicate ns0.length 0) (va.take ns0.length) op re od ∧ nq sN' = nq sN := by
  have hsm := h.small
  have hcnt := h.cnt
  obtain ⟨r0, r1, r2, r3, r4, r5, r6, r7, r8, hh, hc, hd, l1, l2, nd⟩ := h
  have hlen : ns0.length ≤ (ns0 ++ ms).length := by rw [List.length_append]; omega
  obtain ⟨s1, k1, k2, k3, k4, k5⟩ := C_forget10 (N := N) (op := op) (re := re) (od := od) hlen hsm.1 (ns0 ++ ms).length N so va sN (Nat.le_refl _) hlen (by omega) r0 r1 r5 r6 hK.2.2.2 hc hd
  obtain ⟨⟨t1, e1⟩, ⟨t2, e2⟩, ⟨t3, e3⟩, e4⟩ := nm_pre ns0 _ ms rfl
  have rgs : ∀ r, r ≠ 20 → rg s1 r = rg sN r := fun r hr => by unfold rg; rw [k3, k4, k5 r hr]
  have num4 : s1.1 4 = nI ns0.length := by rw [k3]; exact hK.2.2.2
  unfold C_Nam_forget
  rw [hcnt, k1]
  obtain ⟨m', hm'⟩ : ∃ m', N - ((ns0 ++ ms).length - ns0.length) = m' + 1 := ⟨N - ((ns0 ++ ms).length - ns0.length) - 1, by omega⟩
  rw [hm']
  simp only [C_Nam_forget_10]
  have hlt : nI ns0.length - 1 < s1.1 4 := by
    rw [num4]
    by_cases hz : ns0.length = 0
    · rw [hz]; decide
    · rw [show nI ns0.length - 1 = nI (ns0.length - 1) from pk_sub (a := ns0.length) (b := 1) (by omega)]
      exact (nI_ltI (by omega) (by omega)).mpr (by omega)
  rw [if_pos hlt, num4]
  -- row 5
  obtain ⟨u5, p5, q5, z5⟩ := C_Row_cut_eq (show RowL (rg s1 5) (olderL (ns0 ++ ms)) by rw [rgs 5 (by decide)]; exact r5) ns0.length (by omega)
  rw [p5]
  simp only [cl, bnd, Option.bind_some]
  have n5 : (rs s1 5 u5).1 4 = nI ns0.length := by rw [rs_num (by decide)]; exact num4
  rw [n5]
  -- row 6
  obtain ⟨u6, p6, q6, z6⟩ := C_Row_cut_eq (show RowL (rg (rs s1 5 u5) 6) (slotsL (ns0 ++ ms)) by rw [rg_rs (by decide), rgs 6 (by decide)]; exact r6) ns0.length (by omega)
  rw [p6]
  simp only [Option.bind_some]
  have n6 : (rs (rs s1 5 u5) 6 u6).1 4 = nI ns0.length := by rw [rs_num (by decide)]; exact n5
  rw [n6, show nI ns0.length + 1 = nI (ns0.length + 1) from nI_add _ 1]
  -- row 7
  obtain ⟨u7, p7, q7, z7⟩ := C_Row_cut_eq (show RowL (rg (rs (rs s1 5 u5) 6 u6) 7) (startsL (ns0 ++ ms)) by rw [rg_rs (by decide), rg_rs (by decide), rgs 7 (by decide)]; exact r7) (ns0.length + 1) (by omega)
  rw [p7]
  simp only [Option.bind_some]
  have n7 : (rs (rs (rs s1 5 u5) 6 u6) 7 u7).1 4 = nI ns0.length := by rw [rs_num (by decide)]; exact n6
  have q7' : RowL u7 (startsL ns0) := by
    rw [e3, List.take_append_of_le_length (by rw [startsL_len]; omega), List.take_of_length_le (by rw [startsL_len]; omega)] at q7
    exact q7
  have g7 : C_Row_get (nI ns0.length) (rg (rs (rs (rs s1 5 u5) 6 u6) 7 u7) 7) = some (nI ns0.flatten.length) := by
    rw [C_get (RowL_rs q7') (by omega), gD_e (by rw [startsL_len]; omega)]
    unfold startsL
    rw [List.getElem_map, List.getElem_range, preL_all _ (Nat.le_refl _)]
  rw [n7, g7]
  simp only [cr, Option.bind_some]
  have hfl : ns0.flatten.length ≤ 140000 := by
    have := hsm.2
    rw [List.append_nil, List.flatten_append, List.length_append] at this
    omega
  -- row 8
  obtain ⟨u8, p8, q8, z8⟩ := C_Row_cut_eq (show RowL (rg (rs (rs (rs s1 5 u5) 6 u6) 7 u7) 8) ((ns0 ++ ms).flatten ++ []) by rw [rg_rs (by decide), rg_rs (by decide), rg_rs (by decide), rgs 8 (by decide)]; exact r8) ns0.flatten.length (by omega)
  rw [p8]
  simp only [Option.bind_some]
  have n8 : (rs (rs (rs (rs s1 5 u5) 6 u6) 7 u7) 8 u8).1 4 = nI ns0.length := by rw [rs_num (by decide)]; exact n7
  rw [n8]
  -- row 1
  obtain ⟨u1, p1, q1, z1⟩ := C_Row_cut_eq (show RowL (rg (rs (rs (rs (rs s1 5 u5) 6 u6) 7 u7) 8 u8) 1) va by rw [rg_rs (by decide), rg_rs (by decide), rg_rs (by decide), rg_rs (by decide), rgs 1 (by decide)]; exact r1) ns0.length (by omega)
  rw [p1]
  simp only [Option.bind_some]
  have n1 : (rs (rs (rs (rs (rs s1 5 u5) 6 u6) 7 u7) 8 u8) 1 u1).1 4 = nI ns0.length := by rw [rs_num (by decide)]; exact n8
  rw [n1]
  -- row 0
  obtain ⟨u0, p0, q0, z0⟩ := C_Row_cut_eq (show RowL (rg (rs (rs (rs (rs (rs s1 5 u5) 6 u6) 7 u7) 8 u8) 1 u1) 0) so by rw [rg_rs (by decide), rg_rs (by decide), rg_rs (by decide), rg_rs (by decide), rg_rs (by decide), rgs 0 (by decide)]; exact r0) ns0.length (by omega)
  rw [p0]
  simp only [Option.bind_some]
  have n0' : (rs (rs (rs (rs (rs (rs s1 5 u5) 6 u6) 7 u7) 8 u8) 1 u1) 0 u0).1 4 = nI ns0.length := by rw [rs_num (by decide)]; exact n1
  rw [n0']
  have hsl : (so.take ns0.length).length = ns0.length := by rw [List.length_take, l1]; omega
  obtain ⟨uf, pf, qf, zf⟩ := C_rowfill (N := N) (by omega) (show RowL (rg (rs (rs (rs (rs (rs (rs s1 5 u5) 6 u6) 7 u7) 8 u8) 1 u1) 0 u0) 0) (so.take ns0.length) from RowL_rs q0) (a := 0) (len := ns0.length) (by omega) (by omega) 0
  rw [Nat.zero_add] at pf
  rw [show (0 : Int32) = nI 0 from rfl] at pf ⊢
  rw [pf]
  have hfill : wr (so.take ns0.length) 0 (List.replicate ns0.length 0) = List.replicate ns0.length 0 := by
    apply List.ext_getElem
    · rw [wr_len, hsl, List.length_replicate]
    · intro p h1 h2
      rw [wr_len, hsl] at h1
      have := wr_at (List.replicate ns0.length 0) (so.take ns0.length) 0 p (by rw [hsl]; exact h1)
      rw [gD_e (by rw [wr_len, hsl]; exact h1), if_pos (by rw [List.length_replicate]; omega), rep_getD] at this
      rw [this, List.getElem_replicate]
  rw [hfill] at qf
  refine ⟨_, rfl, ⟨RowL_rs qf, ?_, ?_, ?_, ?_, ?_, ?_, ?_, ?_, ?_, ?_, ?_, ?_, ?_, ?_⟩, ?_⟩
  · rw [rg_rs (by decide), rg_rs (by decide)]; exact RowL_rs q1
  · rw [rg_rs (by decide), rg_rs (by decide), rg_rs (by decide), rg_rs (by decide), rg_rs (by decide), rg_rs (by decide), rg_rs (by decide), rgs 2 (by decide)]; exact r2
  · rw [rg_rs (by decide), rg_rs (by decide), rg_rs (by decide), rg_rs (by decide), rg_rs (by decide), rg_rs (by decide), rg_rs (by decide), rgs 3 (by decide)]; exact r3
  · rw [rg_rs (by decide), rg_rs (by decide), rg_rs (by decide), rg_rs (by decide), rg_rs (by decide), rg_rs (by decide), rg_rs (by decide), rgs 4 (by decide)]; exact r4
  · rw [rg_rs (by decide), rg_rs (by decide), rg_rs (by decide), rg_rs (by decide), rg_rs (by decide), rg_rs (by decide)]
    rw [e1, List.take_append_of_le_length (by rw [olderL_len]; omega), List.take_of_length_le (by rw [olderL_len]; omega)] at q5
    exact RowL_rs q5
  · rw [rg_rs (by decide), rg_rs (by decide), rg_rs (by decide), rg_rs (by decide), rg_rs (by decide)]
    rw [e2, List.take_append_of_le_length (by rw [slotsL_len]; omega), List.take_of_length_le (by rw [slotsL_len]; omega)] at q6
    exact RowL_rs q6
  · rw [rg_rs (by decide), rg_rs (by decide), rg_rs (by decide), rg_rs (by decide)]; exact RowL_rs q7'
  · rw [rg_rs (by decide), rg_rs (by decide), rg_rs (by decide)]
    rw [List.append_nil, List.flatten_append, List.take_append_of_le_length (Nat.le_refl _), List.take_of_length_le (Nat.le_refl _)] at q8
    rw [List.append_nil]
    exact RowL_rs q8
  · rw [rs_num (by decide), rs_num (by decide), rs_num (by decide), rs_num (by decide), rs_num (by decide), rs_num (by decide), rs_num (by decide), k3]; exact hh
  · show s1.2.2 20 = 512
    rw [k4]; exact hc
  · intro s hs
    show s1.2.1 20 s = _
    rw [k2 s hs, e4 s ns0.length (Nat.le_refl _)]
  · rw [List.length_replicate]
  · rw [List.length_take, l2]; omega
  · exact (List.nodup_append.mp nd).1
  · refine Prod.ext ?_ (funext fun j => ?_)
    · show capN _ = capN _
      have : (rs (rs (rs (rs (rs (rs (rs s1 5 u5) 6 u6) 7 u7) 8 u8) 1 u1) 0 u0) 0 uf).2.2 = sN.2.2 := by
        rw [rs_caps zf, rs_caps z0, rs_caps z1, rs_caps z8, rs_caps z7, rs_caps z6, rs_caps z5, k4]
      unfold capN
      rw [this]
    · show (rs (rs (rs (rs (rs (rs (rs s1 5 u5) 6 u6) 7 u7) 8 u8) 1 u1) 0 u0) 0 uf).1 j.val = sN.1 j.val
      rw [rs_num j.isLt, rs_num j.isLt, rs_num j.isLt, rs_num j.isLt, rs_num j.isLt, rs_num j.isLt, rs_num j.isLt, k3]
