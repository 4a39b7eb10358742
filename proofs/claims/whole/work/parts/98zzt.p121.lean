/-! ===== the names' tables ===== -/
def ixN : List Nat := [0, 1, 2, 3, 4, 5, 6, 7, 8, 9, 10, 11, 12, 13, 14, 15, 16, 17, 18, 19, 20, 21, 22, 23, 24, 25, 26, 27, 28, 29, 30, 31, 32, 33, 34, 35, 36, 37, 38, 39, 40, 41, 42, 43, 44, 45, 46, 47, 48, 49, 50, 51, 52, 53, 54, 55, 56, 57, 58, 59, 60, 61, 62, 63, 64, 65, 93, 102, 66, 67, 68, 69, 89, 70, 73, 75, 71, 72, 74, 76, 77, 78, 79, 80, 81, 82, 83, 84, 85, 86, 87, 90, 88, 91, 92, 94, 95, 97, 99, 96, 98, 100, 101, 103, 104, 105, 106, 107, 108, 109, 110, 111, 112, 113, 114, 115, 116, 117, 118, 119, 120, 121, 122, 123, 124, 125, 126, 127]
def opT (nm : List Int32) (v w : Int32) : Bool := match opO nm with
  | none => decide (v = 0)
  | some o => decide ((v - 1).toNatClampNeg < ex_nO ∧ v = nI ((v - 1).toNatClampNeg + 1) ∧ ex_role.getD (v - 1).toNatClampNeg 0 = o.1 ∧ (o.1 = 0 → ex_shape.getD (v - 1).toNatClampNeg 0 < 188 ∧ strB (ex_shape.getD (v - 1).toNatClampNeg 0) = o.2.1 ∧ ex_word.getD (v - 1).toNatClampNeg 0 ||| w = o.2.2) ∧ (o.1 = 4 ∨ o.1 = 5 ∨ o.1 = 9 ∨ o.1 = 10 → ex_word.getD (v - 1).toNatClampNeg 0 = o.2.2))
theorem opT_R {nm : List Int32} {v w : Int32} (h : opT nm v w = true) : OpR nm v w := by
  unfold opT at h
  unfold OpR
  cases ho : opO nm with
  | none => rw [ho] at h; exact Or.inl ⟨rfl, of_decide_eq_true h⟩
  | some o => rw [ho] at h; exact Or.inr ⟨o, _, rfl, of_decide_eq_true h⟩
set_option maxRecDepth 100000 in
theorem al_tab : ALLE.all (fun e => decide (e.2.2.1 = regR e.1 + 1) && opT e.1 e.2.1 e.2.2.2) = true := by decide +kernel
theorem al_789 : ∀ k, k < 10 → 7 ≤ k → regR (strB k) = -1 ∧ (opO (strB k)).isNone = true := by decide +kernel
set_option maxRecDepth 100000 in
theorem nm_tbl : ∀ k, k < 128 → vl (spB (ixN.getD k 0)) = true ∧ pk (spB (ixN.getD k 0)) = M_names k ∧ spB (ixN.getD k 0) ∈ ALLN ∧ (M_shapes k = 9 ∨ M_shapes k = 10 → spB (ixN.getD k 0) ++ [46, 97, 113] ∈ ALLN ∧ spB (ixN.getD k 0) ++ [46, 114, 108] ∈ ALLN ∧ spB (ixN.getD k 0) ++ [46, 97, 113, 114, 108] ∈ ALLN) := by decide +kernel
theorem drop_3 {nm : List Int32} (h : 3 ≤ nm.length) : nm.drop (nm.length - 3) = [nm.getD (nm.length - 3) 0, nm.getD (nm.length - 2) 0, nm.getD (nm.length - 1) 0] := by
  rw [List.drop_eq_getElem_cons (i := nm.length - 3) (by omega), show nm.length - 3 + 1 = nm.length - 2 by omega, List.drop_eq_getElem_cons (i := nm.length - 2) (by omega), show nm.length - 2 + 1 = nm.length - 1 by omega, List.drop_eq_getElem_cons (i := nm.length - 1) (by omega), show nm.length - 1 + 1 = nm.length by omega, List.drop_length, gD_e (i := nm.length - 3) (by omega), gD_e (i := nm.length - 2) (by omega), gD_e (i := nm.length - 1) (by omega)]
theorem drop_5 {nm : List Int32} (h : 5 ≤ nm.length) : nm.drop (nm.length - 5) = [nm.getD (nm.length - 5) 0, nm.getD (nm.length - 4) 0, nm.getD (nm.length - 3) 0, nm.getD (nm.length - 2) 0, nm.getD (nm.length - 1) 0] := by
  rw [List.drop_eq_getElem_cons (i := nm.length - 5) (by omega), show nm.length - 5 + 1 = nm.length - 4 by omega, List.drop_eq_getElem_cons (i := nm.length - 4) (by omega), show nm.length - 4 + 1 = nm.length - 3 by omega, drop_3 (by omega), gD_e (i := nm.length - 5) (by omega), gD_e (i := nm.length - 4) (by omega)]
theorem op_in {nm : List Int32} (hp : ∀ c ∈ nm, isPl c = true) : opO nm = none ∨ nm ∈ ALLN := by
  unfold opO opk
  cases hn : nmd (pk nm) with
  | some k =>
    obtain ⟨-, k2, k3⟩ := nmdA_lt (pk nm) 128 0 k hn
    obtain ⟨v1, v2, v3, -⟩ := nm_tbl k (by omega)
    have e : nm = spB (ixN.getD k 0) := (pkn_eq hp v1).mp (by rw [v2]; exact k3.symm)
    right
    rw [e]; exact v3
  | none =>
    simp only []
    by_cases hs : sfx nm = 0
    · left; rw [if_pos hs]; rfl
    rw [if_neg hs]
    cases hb : nmd (pk (nm.take (nm.length - sfx nm))) with
    | none => left; rfl
    | some k =>
      simp only []
      by_cases h9 : M_shapes k = 9 ∨ M_shapes k = 10
      · right
        obtain ⟨-, k2, k3⟩ := nmdA_lt _ 128 0 k hb
        obtain ⟨v1, v2, -, v4⟩ := nm_tbl k (by omega)
        obtain ⟨w1, w2, w3⟩ := v4 h9
        have e : nm.take (nm.length - sfx nm) = spB (ixN.getD k 0) := (pkn_eq (fun c hc => hp c (List.mem_of_mem_take hc)) v1).mp (by rw [v2]; exact k3.symm)
        have ea := List.take_append_drop (nm.length - sfx nm) nm
        rw [e] at ea
        by_cases c5 : 5 < nm.length ∧ nm.getD (nm.length - 5) 0 = 46 ∧ nm.getD (nm.length - 4) 0 = 97 ∧ nm.getD (nm.length - 3) 0 = 113 ∧ nm.getD (nm.length - 2) 0 = 114 ∧ nm.getD (nm.length - 1) 0 = 108
        · have e5 : sfx nm = 5 := by unfold sfx; rw [if_pos c5]
          obtain ⟨d0, d1, d2, d3, d4, d5⟩ := c5
          rw [e5, drop_5 (by omega), d1, d2, d3, d4, d5] at ea
          rw [← ea]; exact w3
        · have e3 : sfx nm = sfx3 nm := by unfold sfx; rw [if_neg c5]
          by_cases c3 : 3 < nm.length ∧ ((nm.getD (nm.length - 2) 0 = 97 ∧ nm.getD (nm.length - 1) 0 = 113) ∨ (nm.getD (nm.length - 2) 0 = 114 ∧ nm.getD (nm.length - 1) 0 = 108)) ∧ nm.getD (nm.length - 3) 0 = 46
          · have e4 : sfx nm = 3 := by rw [e3]; unfold sfx3; rw [if_pos c3]
            obtain ⟨d0, d1, d2⟩ := c3
            rw [e4, drop_3 (by omega), d2] at ea
            rcases d1 with ⟨d3, d4⟩ | ⟨d3, d4⟩
            · rw [d3, d4] at ea
              rw [← ea]; exact w1
            · rw [d3, d4] at ea
              rw [← ea]; exact w2
          · exfalso
            apply hs
            rw [e3]; unfold sfx3; rw [if_neg c3]
      · left; rw [if_neg h9]; rfl
theorem reg3_no {c n : Int32} (h1 : c ≠ 120) (h2 : c ≠ 97) (h3 : c ≠ 116) (h4 : c ≠ 115) : reg3 c n = -1 := by
  unfold reg3
  rw [if_neg h1, if_neg h2, if_neg h3, if_neg h4]
theorem reg3_99 (c : Int32) : reg3 c 99 = -1 := by
  unfold reg3
  rw [if_pos (show (32 : Int32) ≤ 99 by decide), if_pos (show (8 : Int32) ≤ 99 by decide), if_pos (show (3 : Int32) ≤ 99 by decide), if_pos (show (7 : Int32) ≤ 99 by decide), if_pos (show (2 : Int32) ≤ 99 by decide), if_pos (show (12 : Int32) ≤ 99 by decide)]
  split
  · rfl
  · split
    · rfl
    · split
      · rfl
      · split <;> rfl
set_option maxRecDepth 100000 in
theorem tab2 : ∀ c ∈ ([120, 97, 116, 115] : List Int32), ∀ k, k < 10 → reg3 c (nI (48 + k) - 48) = -1 ∨ [c, nI (48 + k)] ∈ ALLN := by decide +kernel
set_option maxRecDepth 100000 in
theorem tab3 : ∀ c ∈ ([120, 97, 116, 115] : List Int32), ∀ k, k < 10 → ∀ l, l < 10 → nI (48 + k) - 48 = 0 ∨ reg3 c ((10 * (nI (48 + k) - 48) + nI (48 + l)) - 48) = -1 ∨ [c, nI (48 + k), nI (48 + l)] ∈ ALLN := by decide +kernel
set_option maxRecDepth 100000 in
theorem six : (pk [122, 101, 114, 111] = 4006234 ∧ vl [122, 101, 114, 111] = true ∧ [122, 101, 114, 111] ∈ ALLN) ∧ (pk [114, 97] = 82 ∧ vl [114, 97] = true ∧ [114, 97] ∈ ALLN) ∧ (pk [115, 112] = 1043 ∧ vl [115, 112] = true ∧ [115, 112] ∈ ALLN) ∧ (pk [103, 112] = 1031 ∧ vl [103, 112] = true ∧ [103, 112] ∈ ALLN) ∧ (pk [116, 112] = 1044 ∧ vl [116, 112] = true ∧ [116, 112] ∈ ALLN) ∧ (pk [102, 112] = 1030 ∧ vl [102, 112] = true ∧ [102, 112] ∈ ALLN) := by decide +kernel
theorem six_in {nm b : List Int32} {z : Int64} (hp : ∀ c ∈ nm, isPl c = true) (h : pk b = z ∧ vl b = true ∧ b ∈ ALLN) (hz : pk nm = z) : nm ∈ ALLN := by
  obtain ⟨h1, h2, h3⟩ := h
  rw [(pkn_eq hp h2).mp (hz.trans h1.symm)]
  exact h3
theorem dg_k {b : Int32} (h : isDg b = true) : ∃ k, k < 10 ∧ b = nI (48 + k) := by
  simp only [isDg, Bool.and_eq_true, decide_eq_true_eq] at h
  obtain ⟨k, k1, k2, e⟩ := i_sub (a := 48) (b := 57) h.1 h.2 (by decide) (by decide)
  exact ⟨k - 48, by omega, by rw [e]; congr 1; omega⟩
theorem len2 : ∀ (l : List Int32), l.length = 2 → ∃ a b, l = [a, b]
  | [], h => by simp at h
  | [_], h => by simp at h
  | [a, b], _ => ⟨a, b, rfl⟩
  | _ :: _ :: _ :: _, h => by simp at h
theorem len3 : ∀ (l : List Int32), l.length = 3 → ∃ a b c, l = [a, b, c]
  | [], h => by simp at h
  | [_], h => by simp at h
  | [_, _], h => by simp at h
  | [a, b, c], _ => ⟨a, b, c, rfl⟩
  | _ :: _ :: _ :: _ :: _, h => by simp at h
theorem reg_in {nm : List Int32} (hp : ∀ c ∈ nm, isPl c = true) : regR nm = -1 ∨ nm ∈ ALLN := by
  obtain ⟨s1, s2, s3, s4, s5, s6⟩ := six
  unfold regR
  by_cases z1 : pk nm = 4006234
  · exact Or.inr (six_in hp s1 z1)
  rw [if_neg z1]
  by_cases z2 : pk nm = 82
  · exact Or.inr (six_in hp s2 z2)
  rw [if_neg z2]
  by_cases z3 : pk nm = 1043
  · exact Or.inr (six_in hp s3 z3)
  rw [if_neg z3]
  by_cases z4 : pk nm = 1031
  · exact Or.inr (six_in hp s4 z4)
  rw [if_neg z4]
  by_cases z5 : pk nm = 1044
  · exact Or.inr (six_in hp s5 z5)
  rw [if_neg z5]
  by_cases z6 : pk nm = 1030
  · exact Or.inr (six_in hp s6 z6)
  rw [if_neg z6]
  clear z1 z2 z3 z4 z5 z6 s1 s2 s3 s4 s5 s6
  by_cases hl : nm.length = 2 ∨ nm.length = 3
  · rw [if_pos hl]
    by_cases hd : isDg (nm.getD 1 0) = true
    · rw [if_pos hd]
      obtain ⟨k, k1, k2⟩ := dg_k hd
      rcases hl with hl | hl
      · obtain ⟨a, b, rfl⟩ := len2 nm hl
        have k2 : b = nI (48 + k) := k2
        show reg3 a (b - 48) = -1 ∨ [a, b] ∈ ALLN
        rw [k2]
        by_cases h1 : a = 120
        · rw [h1]; exact tab2 120 (by decide) k k1
        by_cases h2 : a = 97
        · rw [h2]; exact tab2 97 (by decide) k k1
        by_cases h3 : a = 116
        · rw [h3]; exact tab2 116 (by decide) k k1
        by_cases h4 : a = 115
        · rw [h4]; exact tab2 115 (by decide) k k1
        exact Or.inl (reg3_no h1 h2 h3 h4)
      · obtain ⟨a, b, c, rfl⟩ := len3 nm hl
        have k2 : b = nI (48 + k) := k2
        show reg3 a (if b - 48 = 0 then 99 else if isDg c = true then (10 * (b - 48) + c) - 48 else 99) = -1 ∨ [a, b, c] ∈ ALLN
        by_cases hb : b - 48 = 0
        · rw [if_pos hb]; exact Or.inl (reg3_99 a)
        rw [if_neg hb]
        by_cases hc : isDg c = true
        · rw [if_pos hc]
          obtain ⟨l, l1, l2⟩ := dg_k hc
          rw [k2] at hb ⊢
          rw [l2]
          by_cases h1 : a = 120
          · rw [h1]; exact (tab3 120 (by decide) k k1 l l1).resolve_left hb
          by_cases h2 : a = 97
          · rw [h2]; exact (tab3 97 (by decide) k k1 l l1).resolve_left hb
          by_cases h3 : a = 116
          · rw [h3]; exact (tab3 116 (by decide) k k1 l l1).resolve_left hb
          by_cases h4 : a = 115
          · rw [h4]; exact (tab3 115 (by decide) k k1 l l1).resolve_left hb
          exact Or.inl (reg3_no h1 h2 h3 h4)
        · rw [if_neg hc]; exact Or.inl (reg3_99 a)
    · rw [if_neg hd]; exact Or.inl rfl
  · rw [if_neg hl]; exact Or.inl rfl
theorem tbk : TbK ALLN opA reA odA := by
  intro ms hp hnd hl
  have hL : ALLE.length = 226 := al_size.2
  have hM : (ALLE.map (fun e => e.1)).length = 226 := by rw [List.length_map]; exact hL
  have l2 : opA.length = 226 := by rw [List.length_map]; exact hL
  have l3 : reA.length = 226 := by rw [List.length_map]; exact hL
  have l4 : odA.length = 226 := by rw [List.length_map]; exact hL
  have eA : ALLN ++ ms = ALLE.map (fun e => e.1) ++ ([strB 7, strB 8, strB 9] ++ ms) := by
    unfold ALLN
    simp only [List.append_assoc, List.cons_append, List.nil_append]
  have key : ∀ i, i < (ALLN ++ ms).length → getR reA (nI i) = regR ((ALLN ++ ms).getD i []) + 1 ∧ OpR ((ALLN ++ ms).getD i []) (getR opA (nI i)) (getR odA (nI i)) := by
    intro i hi
    rw [getR_nI _ (by omega), getR_nI _ (by omega), getR_nI _ (by omega)]
    by_cases h1 : i < 226
    · have hi' : i < ALLE.length := by omega
      have en : (ALLN ++ ms).getD i [] = (ALLE[i]).1 := by
        rw [eA, gD_l (by omega), gD_e (by omega), List.getElem_map]
      have e2 : opA.getD i 0 = (ALLE[i]).2.1 := by rw [gD_e (by omega), List.getElem_map]
      have e3 : reA.getD i 0 = (ALLE[i]).2.2.1 := by rw [gD_e (by omega), List.getElem_map]
      have e4 : odA.getD i 0 = (ALLE[i]).2.2.2 := by rw [gD_e (by omega), List.getElem_map]
      have ht := List.all_eq_true.mp al_tab (ALLE[i]) (List.getElem_mem _)
      rw [Bool.and_eq_true] at ht
      rw [en, e2, e3, e4]
      exact ⟨of_decide_eq_true ht.1, opT_R ht.2⟩
    · rw [gD_o (A := reA) (by omega), gD_o (A := opA) (by omega)]
      have out : regR ((ALLN ++ ms).getD i []) = -1 ∧ opO ((ALLN ++ ms).getD i []) = none := by
        by_cases h2 : i < 229
        · have en : (ALLN ++ ms).getD i [] = strB (i - 226 + 7) := by
            rw [eA, gD_r (by omega), gD_l (by rw [hM]; show i - 226 < 3; omega), hM]
            rcases (show i = 226 ∨ i = 227 ∨ i = 228 by omega) with z | z | z <;> subst z <;> rfl
          rw [en]
          obtain ⟨a1, a2⟩ := al_789 (i - 226 + 7) (by omega) (by omega)
          exact ⟨a1, Option.isNone_iff_eq_none.mp a2⟩
        · have lN : ALLN.length = 229 := by
            unfold ALLN
            rw [List.length_append, List.length_append, List.length_append, hM]
            rfl
          have hm : (ALLN ++ ms).getD i [] ∈ ms := by
            rw [gD_r (by omega)]
            rw [List.length_append] at hi
            rw [gD_e (by omega)]
            exact List.getElem_mem _
          have hno : (ALLN ++ ms).getD i [] ∉ ALLN := fun z => (List.nodup_append.mp hnd).2.2 _ z _ hm rfl
          have hpl := hp _ hm
          exact ⟨(reg_in hpl).resolve_right hno, (op_in hpl).resolve_right hno⟩
      rw [out.1]
      exact ⟨by decide, Or.inl ⟨out.2, rfl⟩⟩
  exact ⟨fun i hi => (key i hi).1, fun i hi => (key i hi).2⟩
/-! ===== the pure part whole ===== -/
theorem pure_whole : ∃ (N : Nat) (INV : Nat → LSt → Nat → Nat → Prop) (rN : Int32) (uN : CS) (cN sN : Nat), (∀ (k : Nat) (q : LSt) (cc d : Nat) (a0 a1 a2 a3 : Int32), k < 512 → INV k q cc d → ∃ (q' : LSt) (dc ds : Nat), LStep N (a0 &&& 15) a1 a2 a3 q q' dc ds ∧ INV (k + 1) q' (cc + dc) (d + ds)) ∧ (∀ (k : Nat) (q : LSt) (cc d : Nat), INV k q cc d → cc ≤ 601024 ∧ d ≤ 7293034) ∧ C_Nam_init N N0s = some ((rN, uN), (cN, sN)) ∧ INV 0 (Q0 uN) (64 + cN) (21920 + sN) := by
  have hN : 150000 < 150001 := by omega
  obtain ⟨rN, uN, cN, sN, c', hi, ⟨hc1, hc2⟩, rfl, hn⟩ := init_E hN
  have h0 := INV_0 hn cN sN
  have hlen : ALLN.length < 50000 := by
    unfold ALLN
    rw [List.length_append, List.length_append, List.length_append, List.length_map, al_size.2]
    decide
  have hfl : ALLN.flatten.length < 50000 := by
    unfold ALLN
    rw [List.flatten_append, List.flatten_append, List.flatten_append, List.length_append, List.length_append, List.length_append, al_size.1]
    decide +kernel
  refine ⟨150001, INVp ALLN opA reA odA 21920 (64 * 64), rN, uN, cN, sN, INV_step hN tbk hlen hfl, fun k q cc d h => INV_bound h (by omega) (by omega), hi, ?_⟩
  have hx : capN N0s = 576 := by decide
  obtain ⟨g1, g2, g3, g4, g5, g6, g7, g8, g9⟩ := h0
  refine ⟨g1, g2, g3, g4, g5, g6, g7, ?_, ?_⟩
  · have hc1' : sN + (2 * capN N0s + 0) ≤ 2 * capN uN + 0 := hc1
    show 21920 + sN ≤ 2 * Z64.2.2 0 + (2 * capF F0s + 2 * P0s.2.2 0 + (9 * I0s.2.2 0 + 4 * I0s.2.2 1) + (2 * Z64.2.2 0 + 2 * Z64.2.2 1 + (2 * capN uN + 6 * Z64.2.2 0 + 2 * Z64.2.2 0 + 0))) + 6 * 0 + 21920
    clear g8 g9
    omega
  · have hc2' : 64 * cN + (capN N0s + 0) ≤ capN uN + 0 := hc2
    show 64 * (64 + cN) ≤ Z64.2.2 0 + (capF F0s + P0s.2.2 0 + 64 * (I0s.2.2 0 + I0s.2.2 1) + (Z64.2.2 0 + Z64.2.2 1 + (capN uN + 3 * Z64.2.2 0 + Z64.2.2 0 + 0))) + 64 * 0 + 64 * 64
    clear g8 g9
    omega
