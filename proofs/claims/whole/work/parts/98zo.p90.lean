/-! ===== the class's lengthenAll() ===== -/
def grS (X : List Int32) (Λ : List Lb) (B : Nat) : Sz → List Ev → List Bool
  | _, [] => []
  | s, e :: r => (if e.1 = 2 then [] else if e.1 = 5 then e.2.2.2.2.2.map (growB (ηR X Λ (nI B) (nI (adS B s e.2.2.2.1)) e.2.1) (nI (adS B s e.2.2.2.1))) else [false]) ++ grS X Λ B (stepE s e) r
def grA (X : List Int32) (E : List Ev) : List Bool := List.replicate 10 false ++ grS X (lbS (0, 0) E) (bsE E) (0, 0) E
theorem grS_len (X : List Int32) (Λ : List Lb) (B : Nat) : ∀ (E : List Ev) (s : Sz), (grS X Λ B s E).length = (E.map nit).sum
  | [], s => rfl
  | e :: r, s => by
    rw [grS, List.length_append, grS_len X Λ B r, List.map_cons, List.sum_cons]
    congr 1
    unfold nit
    split
    · rfl
    · split
      · rw [List.length_map]
      · rfl
theorem grA_len (X : List Int32) (E : List Ev) : (grA X E).length = cI E := by
  unfold grA cI
  rw [List.length_append, List.length_replicate, grS_len]
theorem grS_app (X : List Int32) (Λ : List Lb) (B : Nat) : ∀ (E F : List Ev) (s : Sz), grS X Λ B s (E ++ F) = grS X Λ B s E ++ grS X Λ B (lay s E) F
  | [], F, s => rfl
  | e :: E, F, s => by
    rw [List.cons_append, grS, grS, grS_app X Λ B E F, List.append_assoc]
    rfl
theorem grS_any (X : List Int32) (Λ : List Lb) (B : Nat) : ∀ (E : List Ev) (s : Sz), (∀ e ∈ E, e.1 ≠ 5 → e.2.2.2.2.2 = []) → (grS X Λ B s E).any id = anyG X Λ B s E
  | [], s, _ => rfl
  | e :: r, s, h => by
    rw [grS, List.any_append, anyG, grS_any X Λ B r _ (fun x hx => h x (List.mem_cons_of_mem _ hx))]
    congr 1
    by_cases h5 : e.1 = 5
    · rw [if_neg (by omega), if_pos h5, List.any_map]; rfl
    · rw [h e List.mem_cons_self h5, if_neg h5]
      split <;> rfl
theorem grA_any {X : List Int32} {E : List Ev} (h : ∀ e ∈ E, e.1 ≠ 5 → e.2.2.2.2.2 = []) : (grA X E).any id = anX X E := by
  unfold grA
  rw [List.any_append, grS_any _ _ _ _ _ h]
  rfl
theorem grA_at {X : List Int32} {E E1 E2 : List Ev} {e : Ev} (hE : E = E1 ++ e :: E2) (h5 : e.1 = 5) {j : Nat} (hj : j < e.2.2.2.2.2.length) : (grA X E)[cI E1 + j]? = (e.2.2.2.2.2.map (growB (ηE X E (lay (0, 0) E1) e) (aE E (lay (0, 0) E1) e)))[j]? := by
  unfold grA
  rw [List.getElem?_append_right (by rw [List.length_replicate]; unfold cI; omega), List.length_replicate]
  have key : ∀ (Λ : List Lb) (B : Nat), grS X Λ B (0, 0) E = grS X Λ B (0, 0) E1 ++ (e.2.2.2.2.2.map (growB (ηR X Λ (nI B) (nI (adS B (lay (0, 0) E1) e.2.2.2.1)) e.2.1) (nI (adS B (lay (0, 0) E1) e.2.2.2.1))) ++ grS X Λ B (stepE (lay (0, 0) E1) e) E2) := by
    intro Λ B
    rw [hE, grS_app, grS, if_neg (by omega), if_pos h5]
  rw [key, List.getElem?_append_right (by rw [grS_len]; unfold cI; omega), grS_len, List.getElem?_append_left (by rw [List.length_map]; unfold cI; omega)]
  congr 1
  unfold cI
  omega
theorem grA_no {X : List Int32} {E : List Ev} {k : Nat} (hk : k < 10 ∨ ∃ E1 e E2, E = E1 ++ e :: E2 ∧ e.1 ≠ 5 ∧ e.1 ≠ 2 ∧ k = cI E1) : (grA X E).getD k false = false := by
  rcases hk with hk | ⟨E1, e, E2, hE, h5, h2, rfl⟩
  · unfold grA
    rw [gD_l (by rw [List.length_replicate]; exact hk), gD_e (by rw [List.length_replicate]; exact hk), List.getElem_replicate]
  · unfold grA
    rw [gD_r (by rw [List.length_replicate]; unfold cI; omega), List.length_replicate]
    have key : ∀ (Λ : List Lb) (B : Nat), grS X Λ B (0, 0) E = grS X Λ B (0, 0) E1 ++ (false :: grS X Λ B (stepE (lay (0, 0) E1) e) E2) := by
      intro Λ B
      rw [hE, grS_app, grS, if_neg h2, if_neg h5]
      rfl
    rw [key, show cI E1 - 10 = (grS X (lbS (0, 0) E) (bsE E) (0, 0) E1).length by rw [grS_len]; unfold cI; omega]
    exact getD_mid _ _ _ _
theorem lenM_n {mk : Int32} (h : isJ mk = false) : lenM mk = 0 := by
  have h' := of_decide_eq_false h
  unfold lenM
  rw [if_neg (fun z => h' (Or.inl z)), if_neg (fun z => h' (Or.inr (Or.inl z))), if_neg (fun z => h' (Or.inr (Or.inr z)))]
theorem lenM_J {mk : Int32} (h : isJ mk = true) {lev : Nat} (hl : lev ≤ lvM mk) : (lenM mk ≤ nI (2 * 2 ^ lev) ↔ ¬ lev < lvM mk) ∧ Lof (2 * 2 ^ lev) = lev := by
  have h' := of_decide_eq_true h
  have h2 : lev < 3 := by
    have : lvM mk ≤ 2 := by unfold lvM; split <;> omega
    omega
  rcases h' with rfl | rfl | rfl
  · have key : ∀ l, l < 3 → l ≤ lvM 120 → ((lenM 120 ≤ nI (2 * 2 ^ l) ↔ ¬ l < lvM 120) ∧ Lof (2 * 2 ^ l) = l) := by decide
    exact key lev h2 hl
  · have key : ∀ l, l < 3 → l ≤ lvM 122 → ((lenM 122 ≤ nI (2 * 2 ^ l) ↔ ¬ l < lvM 122) ∧ Lof (2 * 2 ^ l) = l) := by decide
    exact key lev h2 hl
  · have key : ∀ l, l < 3 → l ≤ lvM 116 → ((lenM 116 ≤ nI (2 * 2 ^ l) ↔ ¬ l < lvM 116) ∧ Lof (2 * 2 ^ l) = l) := by decide
    exact key lev h2 hl
theorem mem_sum : ∀ (l : List Nat) (a : Nat), a ∈ l → a ≤ l.sum
  | b :: l, a, h => by
    rw [List.sum_cons]
    rcases List.mem_cons.mp h with e | e
    · omega
    · have := mem_sum l a e; omega
section
variable {N : Nat} {X : List Int32} {ns : List (List Int32)} {Y K V so va op re od : List Int32} {sP sI0 sE sY sN sT : CS} {E : List Ev} {x y : Nat}
/-- a slot: nothing can grow there, or a jump stands alone -/
theorem slot_J (h : PRG X ns Y K V so va E sP sI0) {k : Nat} (hk : k < cI E) : (∃ L, L < 2 ^ 30 ∧ sI0.2.1 (k + 1) 4 = nI L ∧ lenM (sI0.2.1 (k + 1) 2) = 0 ∧ (grA X E).getD k false = false) ∨ ∃ E1 e E2 mk w lev R, E = E1 ++ e :: E2 ∧ e.1 = 5 ∧ k = cI E1 ∧ e.2.2.2.2.2 = [(mk, w, 2 * 2 ^ lev, R, [])] ∧ isJ mk = true ∧ lev ≤ lvM mk ∧ sI0.2.1 (k + 1) 4 = nI (2 * 2 ^ lev) ∧ sI0.2.1 (k + 1) 2 = mk ∧ (grA X E).getD k false = growB (ηE X E (lay (0, 0) E1) e) (aE E (lay (0, 0) E1) e) (mk, w, 2 * 2 ^ lev, R, []) := by
  obtain ⟨hX, hW, hNm, hPr, hL, hc, hPl⟩ := h
  obtain ⟨x, hx⟩ : ∃ x, (slA E)[k]? = some x := ⟨_, List.getElem?_eq_getElem (by rw [slA_len]; exact hk)⟩
  have hm := Pr_mem hX hW hPr hx
  rcases sl_at hx with ⟨hk10, rfl⟩ | ⟨E1, e, E2, j, hE, rfl, hj⟩
  · left
    exact ⟨0, by omega, hm.2.2.1 (show (1 : Int32) ≠ 3 by decide), by rw [hm.2.1]; rfl, grA_no (Or.inl hk10)⟩
  · by_cases h5 : e.1 = 5
    · rw [slE_5 h5, List.getElem?_map] at hj
      cases hit : e.2.2.2.2.2[j]? with
      | none => rw [hit] at hj; cases hj
      | some it =>
        rw [hit] at hj
        have hx' : x = (e.2.2.2.1, it) := by simpa using hj.symm
        rw [hx'] at hm
        have hjl := getE_lt hit
        have hg : (grA X E).getD (cI E1 + j) false = growB (ηE X E (lay (0, 0) E1) e) (aE E (lay (0, 0) E1) e) it := by
          rw [List.getD_eq_getElem?_getD, grA_at hE h5 hjl, List.getElem?_map, hit]
          rfl
        have hS := (WfE_SI hX hW e (by rw [hE]; simp)).1 h5
        rcases hS with ⟨q1, q2⟩ | ⟨n, q1, q2⟩ | ⟨mk, w, lev, R, q1, q2, q3, q4⟩
        · left
          have hmem := List.mem_of_getElem? hit
          have hlen : it.2.2.1 ≤ ilens e.2.2.2.2.2 := by
            unfold ilens
            exact mem_sum _ _ (List.mem_map.mpr ⟨it, hmem, rfl⟩)
          exact ⟨it.2.2.1, by omega, hm.2.2.1 (q1 it hmem).1, by rw [hm.2.1]; exact lenM_n (q1 it hmem).2, by rw [hg]; exact growB_nJ (q1 it hmem).2⟩
        · left
          have hit3 : it.1 = 3 ∧ it.2.1 = nI n := by
            rw [q2] at hit
            cases j with
            | zero => have : (3, nI n, 0, [], []) = it := by simpa using hit
                      rw [← this]; exact ⟨rfl, rfl⟩
            | succ j => simp at hit
          have hp := ((hPl.2.2.2 E1 e E2 hE).1 h5 j it hit).2
          refine ⟨_, ?_, hp, by rw [hm.2.1]; show lenM it.1 = 0; rw [hit3.1]; rfl, by rw [hg]; exact growB_nJ (by rw [hit3.1]; rfl)⟩
          unfold lenI
          rw [if_pos hit3.1, hit3.2, nI_clamp (by omega)]
          have := padN_le (offS (lay (0, 0) E1) e.2.2.2.1 + szL (offS (lay (0, 0) E1) e.2.2.2.1) (List.take j e.2.2.2.2.2)) q1
          omega
        · right
          have hj0 : j = 0 ∧ it = (mk, w, 2 * 2 ^ lev, R, []) := by
            rw [q1] at hit
            cases j with
            | zero => exact ⟨rfl, by simpa using hit.symm⟩
            | succ j => simp at hit
          obtain ⟨rfl, rfl⟩ := hj0
          have hne3 : mk ≠ 3 := fun z => by rw [z] at q2; exact absurd q2 (by decide)
          rw [Nat.add_zero] at hm hg ⊢
          exact ⟨E1, e, E2, mk, w, lev, R, hE, h5, rfl, q1, q2, q4, hm.2.2.1 hne3, hm.2.1, hg⟩
    · have h2 : e.1 ≠ 2 := by
        intro h2
        have : (slE e) = [] := by unfold slE; rw [if_pos h2]
        rw [this, List.getElem?_nil] at hj; cases hj
      rw [slE_p h5 h2] at hj
      have hj0 : j = 0 ∧ x = (e.2.2.2.1, plS) := by
        cases j with
        | zero => exact ⟨rfl, by simpa using hj.symm⟩
        | succ j => simp at hj
      obtain ⟨rfl, rfl⟩ := hj0
      left
      rw [Nat.add_zero] at hm ⊢
      exact ⟨0, by omega, hm.2.2.1 (show (1 : Int32) ≠ 3 by decide), by rw [hm.2.1]; rfl, grA_no (Or.inr ⟨E1, e, E2, hE, h5, h2, rfl⟩)⟩
def glF (X : List Int32) (E : List Ev) (sI0 : CS) (q : Nat) : Int32 := if (grA X E).getD q false = true then sI0.2.1 (q + 1) 4 * 2 else sI0.2.1 (q + 1) 4
theorem C_far {sF sI : CS} (hN : 70000 < N) (h : PRG X ns Y K V so va E sP sI0) (hs : Same4 sI0 sI) (hNL : NmS sN ns so va op re od) (h20 : sP.2.2 20 = 10) (hK : K.length ≤ 60000) {S Z : List Int32} (hF : FR4 sF K V S Z) {E1 E2 : List Ev} {e : Ev} (hE : E = E1 ++ e :: E2) (h5 : e.1 = 5) {mk w : Int32} {lev : Nat} {R : List XSt} (hit : e.2.2.2.2.2 = [(mk, w, 2 * 2 ^ lev, R, [])]) (hJ : isJ mk = true) (hlt : lev < lvM mk) (h4 : sI.2.1 (cI E1 + 1) 4 = nI (2 * 2 ^ lev)) (h2 : sI.2.1 (cI E1 + 1) 2 = mk) :
    RC (fp sF x y) (C_Enc_isTooFar N (nI (cI E1)) (cI E1 + 1) sE sY sF sN sT sP sI) (fun v sF' c => v = b2 (growB (ηE X E (lay (0, 0) E1) e) (aE E (lay (0, 0) E1) e) (mk, w, 2 * 2 ^ lev, R, [])) ∧ c = fp sF' x y ∧ ∃ Z', FR4 sF' K V S Z') := by
  have h' := h
  obtain ⟨hX, hW, hNm, hPr, hL, hc, hPl⟩ := h
  have hLs : LOk sI (cI E) := by unfold LOk; rw [hs.2]; exact hL
  have hci := cI_split hE
  rw [nit_5 h5, hit] at hci
  simp only [List.length_cons, List.length_nil] at hci
  have hcap : cI E1 + 1 < sI.2.2 0 + 1 := by have := hLs.1; omega
  have hj : e.2.2.2.2.2[0]? = some (mk, w, 2 * 2 ^ lev, R, []) := by rw [hit]; rfl
  have hR : RG X R := by
    rcases IX_ev hW hE h5 (mk, w, 2 * 2 ^ lev, R, []) (by rw [hit]; exact List.mem_cons_self) with z | z
    · exfalso
      have z' : mk = 0 ∨ mk = 1 ∨ mk = 2 ∨ mk = 3 ∨ mk = 4 := z
      rcases z' with z | z | z | z | z <;> (rw [z] at hJ; exact absurd hJ (by decide))
    · exact z
  have hlof := (lenM_J hJ (Nat.le_of_lt hlt)).2
  have hgr : growB (ηE X E (lay (0, 0) E1) e) (aE E (lay (0, 0) E1) e) (mk, w, 2 * 2 ^ lev, R, []) = (!(evV (ηE X E (lay (0, 0) E1) e) R).2.1 && !(evV (ηE X E (lay (0, 0) E1) e) R).2.2 && !(fitB (mkF mk (nI (2 * 2 ^ lev))) ((evV (ηE X E (lay (0, 0) E1) e) R).1 - aE E (lay (0, 0) E1) e))) := by
    unfold growB
    simp only []
    rw [hJ, hlof, decide_eq_true hlt]
    rfl
  rw [hgr]
  unfold C_Enc_isTooFar
  refine RC_gd (decide_eq_true hcap) (RC_gd (decide_eq_true hcap) (RC_gd (decide_eq_true hcap) ?_))
  have hev := C_evIt (x := x) (y := y) (sT := sT) hN h' hs hNL h20 hK hF hE h5 hj hR
  rw [Nat.add_zero] at hev
  refine RC_then hev (fun r sF' c hu => ?_)
  obtain ⟨rfl, ⟨Z', u2⟩, u3, u4⟩ := hu
  simp only [] at u3 u4
  by_cases hr : r = 0
  · refine RC_y hr ?_
    have hz := mdF_z (u3.symm.trans hr)
    have hadr : C_Prg_addressOf (nI (cI E1)) sP sI = some (aE E (lay (0, 0) E1) e) := by
      rw [C_addr hc hLs, adrC_same hs]
      have := adr_it h' hE h5 hj
      rw [Nat.add_zero, List.take_zero] at this
      rw [this]
      rfl
    refine RC_cr hadr (RC_gd (decide_eq_true hcap) (RC_gd (decide_eq_true hcap) ?_))
    rw [h2, h4]
    refine RC_cr (C_mkF _ _) (RC_cr (C_fits _ _) ?_)
    unfold C_Enc_isTooFar_64
    rw [u4 hr, hz.1, hz.2]
    by_cases hf : fitB (mkF mk (nI (2 * 2 ^ lev))) ((evV (ηE X E (lay (0, 0) E1) e) R).1 - aE E (lay (0, 0) E1) e) = true
    · rw [hf]
      exact RC_n (by decide) (RC_gd rfl (RC_ret ⟨rfl, rfl, Z', u2⟩))
    · rw [show fitB (mkF mk (nI (2 * 2 ^ lev))) ((evV (ηE X E (lay (0, 0) E1) e) R).1 - aE E (lay (0, 0) E1) e) = false by simpa using hf]
      exact RC_y rfl (RC_gd rfl (RC_ret ⟨rfl, rfl, Z', u2⟩))
  · refine RC_n hr (RC_ret ⟨?_, rfl, Z', u2⟩)
    have : (!(evV (ηE X E (lay (0, 0) E1) e) R).2.1 && !(evV (ηE X E (lay (0, 0) E1) e) R).2.2) = false := by
      cases hm : (evV (ηE X E (lay (0, 0) E1) e) R).2.1 with
      | true => rfl
      | false =>
        cases hd : (evV (ηE X E (lay (0, 0) E1) e) R).2.2 with
        | true => rfl
        | false => rw [hm, hd] at u3; exact absurd (u3.trans rfl) hr
    rw [this]
    rfl
theorem C_len4 (hN : 70000 < N) (h : PRG X ns Y K V so va E sP sI0) (hNL : NmS sN ns so va op re od) (h20 : sP.2.2 20 = 10) (hK : K.length ≤ 60000) {S : List Int32} : ∀ (n k m : Nat) (b : Bool) (Z : List Int32) (sF sI : CS), k + n = cI E → n < m → Same4 sI0 sI → (∀ q, q < k → sI.2.1 (q + 1) 4 = glF X E sI0 q) → (∀ q, k ≤ q → sI.2.1 (q + 1) 4 = sI0.2.1 (q + 1) 4) → FR4 sF K V S Z →
    RC (fp sF x y) (C_Enc_lengthenAll_4 N m (b2 b) (nI k) sE sY sF sN sT sP sI) (fun v u c => v = b2 (b || ((grA X E).drop k).any id) ∧ c = fp u.1 x y ∧ (∃ Z', FR4 u.1 K V S Z') ∧ Same4 sI0 u.2 ∧ ∀ q, q < cI E → u.2.2.1 (q + 1) 4 = glF X E sI0 q) := by
  have h' := h
  obtain ⟨hX, hW, hNm, hPr, hL, hc, hPl⟩ := h
  have hL5 := hL.2.2.1
  have hLc := hL.1
  intro n
  induction n with
  | zero =>
    intro k m b Z sF sI hk hm hs h1 h2 hF
    obtain ⟨m', rfl⟩ : ∃ m', m = m' + 1 := ⟨m - 1, by omega⟩
    rw [C_Enc_lengthenAll_4]
    refine RC_y ?_ (RC_gd (b2_isB _) (RC_ret ⟨?_, rfl, ⟨Z, hF⟩, hs, fun q hq => h1 q (by omega)⟩))
    · rw [hc, show k = cI E by omega]; exact Int32.le_refl _
    · rw [List.drop_eq_nil_of_le (by rw [grA_len]; omega)]
      show b2 b = b2 (b || false)
      rw [Bool.or_false]
  | succ n ih =>
    intro k m b Z sF sI hk hm hs h1 h2 hF
    obtain ⟨m', rfl⟩ : ∃ m', m = m' + 1 := ⟨m - 1, by omega⟩
    have hLs : LOk sI (cI E) := by unfold LOk; rw [hs.2]; exact hL
    have hkl : k < cI E := by omega
    have hdrop : (grA X E).drop k = (grA X E).getD k false :: (grA X E).drop (k + 1) := by
      rw [gD_e (by rw [grA_len]; exact hkl)]
      exact List.drop_eq_getElem_cons (by rw [grA_len]; exact hkl)
    rw [C_Enc_lengthenAll_4]
    obtain ⟨f1, f2⟩ := C_find hc hLs (nI k)
    rw [fnI_nI hkl (by omega)] at f1 f2
    refine RC_n ?_ (RC_cr f1 (RC_gd (decide_eq_true f2) (RC_gd (decide_eq_true f2) (RC_cr (C_lenM _) ?_))))
    · rw [hc]; exact fun z => absurd ((nI_leI (by omega) (by omega)).mp z) (by omega)
    have hmk : sI.2.1 (k + 1) 2 = sI0.2.1 (k + 1) 2 := hs.1 _ 2 (by decide)
    have h4 : sI.2.1 (k + 1) 4 = sI0.2.1 (k + 1) 4 := h2 k (Nat.le_refl _)
    rw [hmk, h4]
    -- this one stays
    have stay : ∀ (sF' : CS) (Z' : List Int32), (grA X E).getD k false = false → FR4 sF' K V S Z' → RC (fp sF' x y) (C_Enc_lengthenAll_59 N (C_Enc_lengthenAll_4 N m') (b2 b) (nI k) sE sY sF' sN sT sP sI) (fun v u c => v = b2 (b || ((grA X E).drop k).any id) ∧ c = fp u.1 x y ∧ (∃ Z', FR4 u.1 K V S Z') ∧ Same4 sI0 u.2 ∧ ∀ q, q < cI E → u.2.2.1 (q + 1) 4 = glF X E sI0 q) := by
      intro sF' Z' hg hF'
      unfold C_Enc_lengthenAll_59
      rw [show nI k + 1 = nI (k + 1) from nI_add k 1, hdrop, hg]
      refine ih (k + 1) m' b Z' sF' sI (by omega) (by omega) hs (fun q hq => ?_) (fun q hq => h2 q (by omega)) hF'
      by_cases hqk : q = k
      · rw [hqk, h4]; unfold glF; rw [hg]; rfl
      · exact h1 q (by omega)
    rcases slot_J h' hkl with ⟨L, l1, l2, l3, l4⟩ | ⟨E1, e, E2, mk, w, lev, R, j1, j2, rfl, j4, j5, j6, j7, j8, j9⟩
    · rw [l3, l2]
      exact RC_y ((nI_leI (a := 0) (by omega) (by omega)).mpr (Nat.zero_le _)) (stay sF Z l4 hF)
    · rw [j8, j7]
      have hJ := lenM_J j5 j6
      by_cases hlt : lev < lvM mk
      · refine RC_n (fun z => hJ.1.mp z hlt) ?_
        refine RC_then (C_far (x := x) (y := y) (sE := sE) (sY := sY) (sT := sT) hN h' hs hNL h20 hK hF j1 j2 j4 j5 hlt (h4.trans j7) (hmk.trans j8)) (fun v sF' c hu => ?_)
        obtain ⟨rfl, rfl, Z', u3⟩ := hu
        rw [← j9]
        by_cases hg : (grA X E).getD (cI E1) false = true
        · rw [hg]
          refine RC_n (by decide) (RC_gd (decide_eq_true f2) (RC_gd (decide_eq_true f2) (RC_bnd ?_)))
          unfold C_Enc_lengthenAll_59
          rw [show nI (cI E1) + 1 = nI (cI E1 + 1) from nI_add _ 1]
          have := ih (cI E1 + 1) m' true Z' sF' (cA sI (cI E1 + 1) 4 (nI (2 * 2 ^ lev) * 2)) (by omega) (by omega) ⟨fun q j hj => ?_, hs.2⟩ (fun q hq => ?_) (fun q hq => ?_) u3
          · rw [hdrop, hg]
            show RC _ _ (fun v u c => v = b2 (b || (true || _)) ∧ _)
            rw [Bool.true_or, Bool.or_true]
            rw [Bool.true_or] at this
            exact this
          · by_cases hq : q = cI E1 + 1
            · rw [hq, cA_f _ _ hj]; exact hs.1 _ j hj
            · rw [cA_o _ _ hq]; exact hs.1 _ j hj
          · by_cases hqk : q = cI E1
            · rw [hqk, cA_at]; unfold glF; rw [if_pos hg, j7]
            · rw [cA_o _ _ (by omega)]; exact h1 q (by omega)
          · rw [cA_o _ _ (by omega)]; exact h2 q (by omega)
        · have hg' : (grA X E).getD (cI E1) false = false := by simpa using hg
          rw [hg']
          exact RC_y rfl (stay sF' Z' hg' u3)
      · refine RC_y (hJ.1.mpr hlt) (stay sF Z ?_ hF)
        rw [j9]
        unfold growB
        simp only []
        rw [hJ.2, decide_eq_false hlt, Bool.and_false]
        rfl
end
