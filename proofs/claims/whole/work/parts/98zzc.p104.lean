/-! ===== the class's answers: labels, sizes ===== -/
def LbR (E : List Ev) (v : Int32) (l : Lb) : Prop := ∃ F1 f F2, E = F1 ++ f :: F2 ∧ f.1 < 2 ∧ v = nI (cI F1) ∧ l = (f.2.1, f.1, nI (offS (lay (0, 0) F1) f.2.2.2.1))
theorem lb_all {E : List Ev} : ∀ (E2 E1 : List Ev), E = E1 ++ E2 → All2 (LbR E) (lbI (cI E1) E2) ((lbS (lay (0, 0) E1) E2).filter nmP)
  | [], E1, _ => trivial
  | e :: E2, E1, hE => by
    have hE' : E = (E1 ++ [e]) ++ E2 := by rw [hE]; simp
    have ih := lb_all E2 (E1 ++ [e]) hE'
    rw [cI_snoc, lay_snoc] at ih
    have hl : lbS (lay (0, 0) E1) (e :: E2) = (if e.1 < 5 then [(e.2.1, e.1, if e.1 = 2 then e.2.2.2.2.1 else nI (offS (lay (0, 0) E1) e.2.2.2.1))] else []) ++ lbS (stepE (lay (0, 0) E1) e) E2 := rfl
    rw [lbI, hl, List.filter_append]
    by_cases h2 : e.1 < 2
    · rw [if_pos h2, if_pos (by omega), if_neg (show ¬ e.1 = 2 by omega), List.filter_cons, if_pos (by unfold nmP; exact decide_eq_true h2), List.filter_nil]
      exact ⟨⟨E1, e, E2, hE, h2, rfl, rfl⟩, ih⟩
    · rw [if_neg h2]
      have : (if e.1 < 5 then [((e.2.1, e.1, if e.1 = 2 then e.2.2.2.2.1 else nI (offS (lay (0, 0) E1) e.2.2.2.1)) : Lb)] else []).filter nmP = [] := by
        split
        · rw [List.filter_cons, if_neg (by unfold nmP; rw [decide_eq_false h2]; decide), List.filter_nil]
        · rfl
      rw [this]
      exact ih
theorem All2_at {α β : Type} {Rl : α → β → Prop} : ∀ {l : List α} {m : List β}, All2 Rl l m → ∀ n, n < l.length → ∀ (a : α) (b : β), Rl (l.getD n a) (m.getD n b)
  | x :: l, y :: m, h, 0, _, a, b => h.1
  | x :: l, y :: m, h, n + 1, hn, a, b => All2_at h.2 n (by simp only [List.length_cons] at hn; omega) a b
  | [], [], _, n, hn, _, _ => absurd hn (Nat.not_lt_zero _)
  | [], _ :: _, h, _, _, _, _ => h.elim
  | _ :: _, [], h, _, _, _, _ => h.elim
section
variable {N : Nat} {X : List Int32} {ns : List (List Int32)} {Y K V so va op re od : List Int32} {sG sR sL sX sP sI sE sY sN sT sF : CS} {R : Nat × List Ev} {σ : MS}
theorem map_getD {α β : Type} (f : α → β) : ∀ (l : List α) (n : Nat) (a : α) (b : β), n < l.length → (l.map f).getD n b = f (l.getD n a)
  | x :: l, 0, a, b, _ => rfl
  | x :: l, n + 1, a, b, h => map_getD f l n a b (by simp only [List.length_cons] at h; omega)
  | [], n, a, b, h => absurd h (Nat.not_lt_zero _)
/-- the n-th label -/
theorem lab_n (h : LdC X ns Y K V so va R sE sN sP sI op re od) : (lbI 10 R.2).length = (nmLb R.2).length ∧ (nmLb R.2).length < 5000 ∧ ∀ n, n < (nmLb R.2).length → ∃ v i, C_Row_get (nI n) (rg sP 0) = some v ∧ C_Prg_addressOf v sP sI = some ((nmLb R.2).getD n (0, 0)).2 ∧ (∃ r, C_Prg_find v sP sI = some r ∧ r < sI.2.2 0 + 1 ∧ sI.2.1 r 3 = nI i) ∧ i < ns.length ∧ ns.getD i [] = nmAt X ((nmLb R.2).getD n (0, 0)).1 := by
  obtain ⟨hP, hNS, hcn, hrow, -⟩ := h
  have hP' := hP
  obtain ⟨hX, hW, hNm, hPr, hL, hc, hPl⟩ := hP
  have hall := lb_all R.2 [] (show R.2 = [] ++ R.2 from rfl)
  have hl1 := hall.len
  have hL5 := hL.2.2.1
  have hLc := hL.1
  have hle := lbI_len R.2 10
  have hcd : cI R.2 = 10 + (R.2.map nit).sum := rfl
  have e1 : (nmLb R.2).length = ((lbS (0, 0) R.2).filter nmP).length := by unfold nmLb; rw [List.length_map]
  have hl2 : (lbI 10 R.2).length = (nmLb R.2).length := by rw [e1]; exact hl1
  refine ⟨hl2, by omega, fun n hn => ?_⟩
  obtain ⟨F1, f, F2, g1, g2, g3, g4⟩ := All2_at hall n (by show n < (lbI 10 R.2).length; omega) 0 lb0
  have g3' : (lbI 10 R.2).getD n 0 = nI (cI F1) := g3
  have g4' : ((lbS (0, 0) R.2).filter nmP).getD n lb0 = (f.2.1, f.1, nI (offS (lay (0, 0) F1) f.2.2.2.1)) := g4
  have hnm : (nmLb R.2).getD n (0, 0) = (f.2.1, valL (nI (bsE R.2)) (f.2.1, f.1, nI (offS (lay (0, 0) F1) f.2.2.2.1))) := by
    unfold nmLb
    rw [map_getD _ _ n lb0 (0, 0) (by omega), g4']
  have hci := cI_split g1
  rw [nit_lb g2] at hci
  have hat : (lbS (0, 0) R.2).getD (LbE F1).length lb0 = (f.2.1, f.1, nI (offS (lay (0, 0) F1) f.2.2.2.1)) := by
    conv => lhs; rw [g1]
    rw [lbS_app, ← lbS_len F1 (0, 0), show lbS (lay (0, 0) F1) (f :: F2) = (if f.1 < 5 then [(f.2.1, f.1, if f.1 = 2 then f.2.2.2.2.1 else nI (offS (lay (0, 0) F1) f.2.2.2.1))] else []) ++ lbS (stepE (lay (0, 0) F1) f) F2 from rfl, if_pos (by omega), if_neg (by omega)]
    exact getD_mid _ _ _ _
  obtain ⟨i, i1, i2, i3⟩ := (hPr.2 F1 f F2 g1).2.1 (by omega)
  obtain ⟨q1, q2⟩ := C_find hc hL (nI (cI F1))
  rw [fnI_nI (by omega) (by omega)] at q1 q2
  refine ⟨nI (cI F1), i, ?_, ?_, ⟨_, q1, q2, i3.2.2.2⟩, i1, ?_⟩
  · rw [C_get hrow (by omega), g3']
  · rw [C_addr hc hL, adr_lab hP' g1 (by omega) (by omega), hat, hnm]
  · rw [hnm]; exact i2
theorem Q_isLabel (h : LdC X ns Y K V so va R sE sN sP sI op re od) (hG : sG.1 0 = 1) (x : Int32) : (∃ n, x = nI n ∧ n < (nmLb R.2).length ∧ C_Asm_isLabel x sG sR sL sX sE sY sF sN sT sP sI = some 1) ∨ ((x < 0 ∨ ∃ n, x = nI n ∧ n < 2 ^ 31 ∧ (nmLb R.2).length ≤ n) ∧ C_Asm_isLabel x sG sR sL sX sE sY sF sN sT sP sI = some 0) := by
  obtain ⟨hl, h5, -⟩ := lab_n h
  have hg : ¬ sG.1 0 = 0 := by rw [hG]; decide
  have hcnt : sP.1 100 = nI (nmLb R.2).length := by rw [← hl]; exact h.2.2.2.1.cnt
  unfold C_Asm_isLabel C_Asm_isLabel_29 C_Asm_isLabel_30
  rw [if_neg hg]
  by_cases hx : x < 0
  · rw [if_pos hx]; exact Or.inr ⟨Or.inl hx, rfl⟩
  · rw [if_neg hx]
    have e : x = nI x.toNatClampNeg := (nI_c hx).symm
    have hlt : x.toNatClampNeg < 2 ^ 31 := by
      have := Int32.toInt_lt x
      have h1 : x.toNatClampNeg = x.toInt.toNat := rfl
      omega
    by_cases hn : x.toNatClampNeg < (nmLb R.2).length
    · left
      refine ⟨x.toNatClampNeg, e, hn, ?_⟩
      rw [hcnt, if_neg (show ¬ nI (nmLb R.2).length ≤ x from fun z => by rw [e] at z; have := (nI_leI (by omega) hlt).mp z; omega)]
      rfl
    · right
      refine ⟨Or.inr ⟨x.toNatClampNeg, e, hlt, by omega⟩, ?_⟩
      rw [hcnt, if_pos (by rw [e]; exact (nI_leI (by omega) hlt).mpr (by omega))]
      rfl
theorem Q_address (hN : 4200 < N) (h : LdC X ns Y K V so va R sE sN sP sI op re od) (hG : sG.1 0 = 1) (hL : LdS X R.2 R.1 σ) (h3 : σ.1 3 = 1) (x : Int32) : ∃ σ', FQ σ σ' ∧ ((∃ r, C_Asm_address x sG sR sL sX sE sY sF sN sT sP sI = some r ∧ M_address N x σ = some (r, σ') ∧ σ'.1 0 = 0) ∨ (∃ r2, T_Asm_address x sG sR sL sX sE sY sF sN sT sP sI = some 3 ∧ M_address N x σ = some (r2, σ') ∧ σ'.1 0 = 1)) := by
  obtain ⟨hl, h5, hn⟩ := lab_n h
  rcases M_address_eq hN hL h3 x with ⟨n, σ', rfl, hnl, hM, hF, h0⟩ | ⟨hx, r, σ', hM, hF, h1⟩
  · obtain ⟨v, i, g1, g2, -⟩ := hn n hnl
    refine ⟨σ', hF, Or.inl ⟨_, ?_, hM, h0⟩⟩
    unfold C_Asm_address
    rcases Q_isLabel (sR := sR) (sL := sL) (sX := sX) (sY := sY) (sF := sF) (sT := sT) h hG (nI n) with ⟨n', e', hn', hc⟩ | ⟨hx, -⟩
    · rw [hc]
      simp only [cr, Option.bind_some]
      rw [if_neg (by decide), g1]
      simp only [Option.bind_some]
      rw [g2]
      rfl
    · exfalso
      rcases hx with z | ⟨n', e', h1, h2⟩
      · exact nI_pos (by omega) z
      · rw [nI_eq (by omega) h1] at e'; omega
  · refine ⟨σ', hF, Or.inr ⟨r, ?_, hM, h1⟩⟩
    unfold T_Asm_address
    rcases Q_isLabel (sR := sR) (sL := sL) (sX := sX) (sY := sY) (sF := sF) (sT := sT) h hG x with ⟨n', e', hn', hc⟩ | ⟨-, hc⟩
    · exfalso
      rcases hx with z | ⟨n2, e2, h1, h2⟩
      · rw [e'] at z; exact nI_pos (by omega) z
      · rw [e', nI_eq (by omega) h1] at e2; omega
    · rw [hc]
      simp only [cr, Option.bind_some]
      rw [if_pos trivial]
theorem Q_before30 (h : LdC X ns Y K V so va R sE sN sP sI op re od) (x : Int32) : ∀ (n k m : Nat) (best ad : Int32), k + n = (nmLb R.2).length → n < m → 0 ≤ ad → (best < 0 → ad = 0) → (∀ i, i < (nmLb R.2).length → 0 ≤ ((nmLb R.2).getD i (0, 0)).2) → C_Asm_before_30 N m x best ad (nI (nmLb R.2).length) (nI k) sG sR sL sX sE sY sF sN sT sP sI = some (befR x (((nmLb R.2).drop k).map (fun p => p.2)) best ad k) := by
  obtain ⟨hl, h5, hn⟩ := lab_n h
  intro n
  induction n with
  | zero =>
    intro k m best ad hk hm _ _ _
    obtain ⟨m', rfl⟩ : ∃ m', m = m' + 1 := ⟨m - 1, by omega⟩
    simp only [C_Asm_before_30]
    rw [if_pos (by rw [show k = (nmLb R.2).length by omega]; exact Int32.le_refl _), List.drop_eq_nil_of_le (by omega)]
    rfl
  | succ n ih =>
    intro k m best ad hk hm had hb hpos
    obtain ⟨m', rfl⟩ : ∃ m', m = m' + 1 := ⟨m - 1, by omega⟩
    simp only [C_Asm_before_30]
    obtain ⟨v, i, g1, g2, -⟩ := hn k (by omega)
    rw [if_neg (fun z => absurd ((nI_leI (by omega) (by omega)).mp z) (by omega)), g1]
    simp only [cr, Option.bind_some]
    rw [g2]
    simp only [Option.bind_some]
    have hd : (nmLb R.2).drop k = (nmLb R.2).getD k (0, 0) :: (nmLb R.2).drop (k + 1) := by
      rw [gD_e (by omega)]
      exact List.drop_eq_getElem_cons (by omega)
    have hp := hpos k (by omega)
    rw [hd, List.map_cons, befR]
    unfold C_Asm_before_76
    rw [show nI k + 1 = nI (k + 1) from nI_add k 1]
    by_cases c1 : x < ((nmLb R.2).getD k (0, 0)).2
    · rw [if_pos c1, if_pos c1]
      exact ih (k + 1) m' best ad (by omega) (by omega) had hb hpos
    · rw [if_neg c1, if_neg c1]
      by_cases c2 : best < 0
      · rw [if_pos c2, if_neg (by rw [hb c2]; exact Int32.not_lt.mpr hp)]
        exact ih (k + 1) m' (nI k) _ (by omega) (by omega) hp (fun z => absurd z (nI_pos (by omega))) hpos
      · rw [if_neg c2]
        by_cases c3 : ((nmLb R.2).getD k (0, 0)).2 < ad
        · rw [if_pos c3, if_pos c3]
          exact ih (k + 1) m' best ad (by omega) (by omega) had hb hpos
        · rw [if_neg c3, if_neg c3]
          exact ih (k + 1) m' (nI k) _ (by omega) (by omega) hp (fun z => absurd z (nI_pos (by omega))) hpos
end
