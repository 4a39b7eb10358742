/-! ===== the class's compile ===== -/
def StepR (ns : List (List Int32)) (nr : Nat → Nat) (k v : Int32) (s : XSt) : Prop := k = s.1 ∧ (s.1 = 3 → v = s.2.v) ∧ (s.1 = 2 → ∃ i, i < ns.length ∧ ns.getD i [] = s.2.nm ∧ v = nI i) ∧ (s.1 = 8 ∨ s.1 = 9 → ∃ d, d < 10 ∧ s.2.v >>> ((1 : Int32) &&& 31) = nI d ∧ v = nI (nr d))
def StpL (ns : List (List Int32)) (nr : Nat → Nat) : List Int32 → List Int32 → List XSt → Prop
  | [], [], [] => True
  | k :: K, v :: V, s :: R => StepR ns nr k v s ∧ StpL ns nr K V R
  | _, _, _ => False
theorem StpL_snoc {ns : List (List Int32)} {nr : Nat → Nat} : ∀ {K V : List Int32} {R : List XSt} {k v : Int32} {s : XSt}, StpL ns nr K V R → StepR ns nr k v s → StpL ns nr (K ++ [k]) (V ++ [v]) (R ++ [s])
  | [], [], [], k, v, s, _, h => ⟨h, trivial⟩
  | _ :: _, _ :: _, _ :: _, k, v, s, h1, h2 => ⟨h1.1, StpL_snoc h1.2 h2⟩
  | [], [], _ :: _, _, _, _, h, _ => h.elim
  | [], _ :: _, _, _, _, _, h, _ => h.elim
  | _ :: _, [], _, _, _, _, h, _ => h.elim
  | _ :: _, _ :: _, [], _, _, _, h, _ => h.elim
theorem StpL_len {ns : List (List Int32)} {nr : Nat → Nat} : ∀ {K V : List Int32} {R : List XSt}, StpL ns nr K V R → K.length = R.length ∧ V.length = R.length
  | [], [], [], _ => ⟨rfl, rfl⟩
  | _ :: _, _ :: _, _ :: _, h => by
    obtain ⟨h1, h2⟩ := StpL_len h.2
    simp only [List.length_cons]
    omega
  | [], [], _ :: _, h => h.elim
  | [], _ :: _, _, h => h.elim
  | _ :: _, [], _, h => h.elim
  | _ :: _, _ :: _, [], h => h.elim
theorem stl_anyO {lo : AT → Bool} {l : Nat} : ∀ (S : List Int32) (R : List XSt), (∀ s ∈ S, okS s) → (stl l S R).2.any (lz lo) = R.any (lz lo)
  | [], R, _ => rfl
  | s :: S, R, h => by
    rw [stl]
    split
    · rfl
    · rw [stl_anyO S _ (fun t ht => h t (List.mem_cons_of_mem _ ht)), List.any_append, List.any_cons, List.any_nil, lz_sg (h s List.mem_cons_self)]
      simp
theorem stl_ok {l : Nat} : ∀ (S : List Int32) (R : List XSt), (∀ s ∈ S, okS s) → (∀ s ∈ (stl l S R).1, okS s) ∧ (stl l S R).1.length + (stl l S R).2.length = S.length + R.length
  | [], R, h => ⟨h, rfl⟩
  | s :: S, R, h => by
    rw [stl]
    split
    · exact ⟨h, rfl⟩
    · have := stl_ok (l := l) S (R ++ [(s, nilA)]) (fun t ht => h t (List.mem_cons_of_mem _ ht))
      refine ⟨this.1, ?_⟩
      rw [this.2]
      simp only [List.length_append, List.length_cons, List.length_nil]
      omega
theorem StepR_sg {ns : List (List Int32)} {nr : Nat → Nat} {s : Int32} (h : okS s) : StepR ns nr s 0 (s, nilA) := by
  refine ⟨rfl, fun z => ?_, fun z => ?_, fun z => ?_⟩
  · exfalso
    have z' : s = 3 := z
    rw [z'] at h
    revert h
    unfold okS
    decide
  · exfalso
    have z' : s = 2 := z
    rw [z'] at h
    revert h
    unfold okS
    decide
  · exfalso
    have z' : s = 8 ∨ s = 9 := z
    rcases z' with z' | z' <;> (rw [z'] at h; revert h; unfold okS; decide)
def HasE (ts : List AT) : Prop := ∃ a ∈ ts, AT.k a = 0
theorem HasE.tl {a : AT} {r : List AT} (h : HasE (a :: r)) (h0 : a.k ≠ 0) : HasE r := by
  obtain ⟨b, hb, hk⟩ := h
  rcases List.mem_cons.mp hb with rfl | hb
  · exact absurd hk h0
  · exact ⟨b, hb, hk⟩
def NrF (ts : List AT) : Prop := ∀ a ∈ ts, AT.k a = 5 → ∃ d, d < 10 ∧ AT.v a >>> ((1 : Int32) &&& 31) = nI d
/-- the names: the table, and the three that are known by their numbers -/
def NmS (sN : CS) (ns : List (List Int32)) (so va op re od : List Int32) : Prop := NamL sN ns [] so va op re od ∧ (∃ d, d < ns.length ∧ ns.getD d [] = dotB ∧ sN.1 1 = nI d) ∧ (∃ d, d < ns.length ∧ ns.getD d [] = hiB ∧ sN.1 2 = nI d) ∧ (∃ d, d < ns.length ∧ ns.getD d [] = loB ∧ sN.1 3 = nI d)
theorem nodup_ix {ns : List (List Int32)} (hn : ns.Nodup) {i j : Nat} (hi : i < ns.length) (hj : j < ns.length) (h : ns.getD i [] = ns.getD j []) : i = j := by
  rw [gD_e hi, gD_e hj] at h
  exact (List.getElem?_inj hi hn).mp (by rw [List.getElem?_eq_getElem hi, List.getElem?_eq_getElem hj, h])
/-- a name's number against a known one's -/
theorem nm_eq {ns : List (List Int32)} (hn : ns.Nodup) (hs : ns.length ≤ 140000) {i d : Nat} (hi : i < ns.length) (hd : d < ns.length) : (nI i = nI d) ↔ ns.getD i [] = ns.getD d [] := by
  rw [nI_eq (by omega) (by omega)]
  exact ⟨fun h => by rw [h], fun h => nodup_ix hn hi hd h⟩
section
variable {N : Nat} {ns : List (List Int32)} {nr : Nat → Nat} {Y so va op re od K0 V0 Z : List Int32} {sN sP sI : CS} {x y : Nat}
/-- the waiting signs become steps -/
theorem C_settle {l : Nat} (hl : l ≤ 7) {sT : CS} : ∀ (S : List Int32) (n : Nat) (K V : List Int32) (R : List XSt) (sF : CS), FR4 sF (K0 ++ K) (V0 ++ V) S.reverse Z → StpL ns nr K V R → (∀ s ∈ S, okS s) → S.length < n → (K0 ++ K).length + S.length ≤ 60000 → (V0 ++ V).length + S.length ≤ 60000 → RC (fp sF x y) (C_Frm_settleSigns_8 N n (nI l) (nI S.length) sF sN sT sP sI) (fun _ sF' c => c = fp sF' x y ∧ Fn0 sF sF' ∧ ∃ K' V', FR4 sF' (K0 ++ K') (V0 ++ V') (stl l S R).1.reverse Z ∧ StpL ns nr K' V' (stl l S R).2) := by
  intro S
  induction S with
  | nil =>
    intro n K V R sF hF hS _ hn _ _
    obtain ⟨n', rfl⟩ : ∃ n', n = n' + 1 := ⟨n - 1, by omega⟩
    rw [C_Frm_settleSigns_8]
    refine RC_y (by decide) (RC_ret ⟨rfl, fun _ _ => rfl, K, V, hF, hS⟩)
  | cons s S ih =>
    intro n K V R sF hF hS hok hn hk hv
    obtain ⟨n', rfl⟩ : ∃ n', n = n' + 1 := ⟨n - 1, by omega⟩
    obtain ⟨f0, f1, f2, f3⟩ := hF
    simp only [List.length_cons] at hn hk hv ⊢
    have hlen : (s :: S).reverse.length = S.length + 1 := by simp
    have e1 : nI (S.length + 1) - 1 = nI S.length := nI_pred _
    rw [C_Frm_settleSigns_8]
    refine RC_n (by rw [show (0 : Int32) = nI 0 from rfl, nI_leI (by omega) (by omega)]; omega) ?_
    rw [e1]
    have eg : C_Row_get (nI S.length) (rg sF 2) = some s := by
      rw [C_Row_get_eq f2, getR_nI _ (by omega), List.reverse_cons]
      congr 1
      have := getD_mid S.reverse [] s (0 : Int32)
      rw [List.length_reverse] at this
      exact this
    refine RC_cr eg (RC_cr (C_level s) ?_)
    have hlv := levN_le s
    rw [stl]
    by_cases hc : levN s < l
    · refine RC_n (by rw [nI_leI (by omega) (by omega)]; omega) (RC_ret ?_)
      rw [if_pos hc]
      exact ⟨rfl, fun _ _ => rfl, K, V, ⟨f0, f1, f2, f3⟩, hS⟩
    · refine RC_y (by rw [nI_leI (by omega) (by omega)]; omega) ?_
      rw [if_neg hc]
      refine RC_Fadd (by omega) f0 (by omega) s (fun sF1 a1 a2 a3 => ?_)
      refine RC_Fadd (by omega) (by rw [a2 1 (by decide)]; exact f1) (by omega) 0 (fun sF2 b1 b2' b3 => ?_)
      refine RC_Fcut (l := (s :: S).reverse) (by omega) (by rw [b2' 2 (by decide), a2 2 (by decide)]; exact f2) (by omega) (fun sF3 c1 c2 c3 => ?_)
      rw [pk_m1]
      have er : (s :: S).reverse.take S.length = S.reverse := by
        rw [List.reverse_cons, List.take_append_of_le_length (by simp), List.take_of_length_le (by simp)]
      rw [er] at c1
      rw [List.append_assoc] at a1 b1
      have := ih n' (K ++ [s]) (V ++ [0]) (R ++ [(s, nilA)]) sF3 ⟨by rw [c2 0 (by decide), b2' 0 (by decide)]; exact a1, by rw [c2 1 (by decide)]; exact b1, c1, by rw [c2 3 (by decide), b2' 3 (by decide), a2 3 (by decide)]; exact f3⟩ (StpL_snoc hS (StepR_sg (hok s List.mem_cons_self))) (fun t ht => hok t (List.mem_cons_of_mem _ ht)) (by omega) (by simp only [List.length_append, List.length_cons, List.length_nil] at hk ⊢; omega) (by simp only [List.length_append, List.length_cons, List.length_nil] at hv ⊢; omega)
      exact RC_imp this (fun _ sF' c h => ⟨h.1, fun j hj => (h.2.1 j hj).trans ((c3 j hj).trans ((b3 j hj).trans (a3 j hj))), h.2.2⟩)
theorem C_settleS {l : Nat} (hl : l ≤ 7) {sT sF : CS} {S K V : List Int32} {R : List XSt} (hN : 70000 < N) (hF : FR4 sF (K0 ++ K) (V0 ++ V) S.reverse Z) (hS : StpL ns nr K V R) (hok : ∀ s ∈ S, okS s) (hk : (K0 ++ K).length + S.length ≤ 60000) (hv : (V0 ++ V).length + S.length ≤ 60000) : RC (fp sF x y) (C_Frm_settleSigns N (nI l) sF sN sT sP sI) (fun _ sF' c => c = fp sF' x y ∧ Fn0 sF sF' ∧ ∃ K' V', FR4 sF' (K0 ++ K') (V0 ++ V') (stl l S R).1.reverse Z ∧ StpL ns nr K' V' (stl l S R).2) := by
  unfold C_Frm_settleSigns
  rw [show sF.1 102 = nI S.length by have := hF.2.2.1.cnt; rw [List.length_reverse] at this; exact this]
  exact C_settle hl S N K V R sF hF hS hok (by omega) hk hv
end
