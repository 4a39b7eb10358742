/-! ===== the class's parser: space, align, li ===== -/
theorem f1T_in {η : Int32 → AT → Int32 × Bool} {lo : AT → Bool} {low high : Int32} {ts : List AT} (h : (f1T η lo low high ts).1 = 0) : ¬ (f1T η lo low high ts).2.1 < low ∧ ¬ high < (f1T η lo low high ts).2.1 := by
  unfold f1T at h ⊢
  cases hc : cmpT ts with
  | none => rw [hc] at h; exact absurd h (show ¬ (1 : Nat) = 0 by omega)
  | some z =>
    rw [hc] at h
    simp only [] at h ⊢
    by_cases hf : fxF η lo low high z.1 = 0
    · rw [if_neg (fun k => k hf)]
      simp only []
      unfold fxF at hf
      split at hf
      · omega
      · split at hf
        · omega
        · split at hf
          · omega
          · rename_i k; exact not_or.mp k
    · rw [if_pos hf] at h; exact absurd h hf
section
variable {N : Nat} {ns : List (List Int32)} {nr : Nat → Nat} {Y so va op re od K V : List Int32} {sN sP sI sR : CS} {lo : AT → Bool} {x y b ln sec : Nat} {η : Int32 → AT → Int32 × Bool}
theorem Gd.nil {sF S Z : _} (hc : sP.1 1 = nI b) (hL : LOk sI b) (hF : FR4 sF K V S Z) (kb : Nat) : Gd ns nr Y K V b ln sec [] kb sP sI sF sP sI :=
  ⟨[], [], S, Z, by rw [List.append_nil, List.append_nil]; exact hF, rfl, (by intro j it h; rw [List.getElem?_nil] at h; cases h), (cF_self sP hc).symm, hL, fun _ _ => rfl, Nat.zero_le _⟩
/-- a new item without steps -/
theorem RC_pl {sF sP1 sI1 : CS} {its : List AI} {kb : Nat} (hsb : SB b ln sec sP) (hG : Gd ns nr Y K V b ln sec its kb sP sI sF sP1 sI1) (h5 : b + its.length < 5000) (it : AI) (mk w len : Int32) (e1 : it.1 = mk) (e4 : mk ≠ 4) (e2 : it.2.1 = w) (e3 : mk ≠ 3 → len = nI it.2.2.1) (e5 : it.2.2.2.1 = []) {α τ : Type} {Q : α → τ → Nat × Nat → Prop} {k : Nat → CS × CS → Option ((α × τ) × (Nat × Nat))} (hk : ∀ sP2 sI2, sP2.2 = sP.2 → Gd ns nr Y K V b ln sec (its ++ [it]) kb sP sI sF sP2 sI2 → RC (tp sF sP2 sI2 x y) (k (b + its.length + 1) (sP2, sI2)) Q) : RC (tp sF sP1 sI1 x y) (ct (C_Prg_add mk w len sP1 sI1) k) Q := by
  obtain ⟨K2, V2, S, Z, hF, g2, g3, g4, g5, g6, g7⟩ := hG
  have ep : tp sF sP1 sI1 x y = tp sF sP sI1 x y := by rw [g4]; rfl
  rw [ep]
  refine RC_item (sP := sP) (n := b + its.length) hsb g4 g5 h5 mk w len (fun sI2 hf hold hL2 => ?_)
  refine hk (cF sP 1 (nI (b + its.length + 1))) sI2 rfl ⟨K2, V2, S, Z, hF, g2, ?_, by rw [List.length_append]; rfl, by rw [List.length_append]; exact hL2, fun k hk => (hold k (by omega)).trans (g6 k hk), g7⟩
  have := it_snoc (KB := []) (VB := []) (sI1 := sI1) (sI3 := sI2) (it := it) g3 hold (by
    refine ItX_mk (f := 0) (t := 0) hf (fun j hj => rfl) ?_ ?_ e1 (fun z => e3 (by rw [← e1]; exact z)) (fun z => absurd (e1.symm.trans z) e4) (fun _ => e2.symm) ?_
    · rw [hf 7 (by omega)]; rfl
    · rw [hf 8 (by omega)]; rfl
    · rw [e5]; exact ⟨[], [], (K ++ K2) ++ [], [], [], (V ++ V2) ++ [], rfl, rfl, rfl, rfl, rfl, trivial⟩)
  rw [List.append_nil, List.append_nil] at this
  exact this
theorem StP.gd {sT : CS} {n0 : Nat} {B : BR} {u : CS × CS × CS × CS} (hB : B.1 = 0) (hq : TQ sT u.2.1) (hT : TPos ns Y u.2.1 B.2.2) (hG : Gd ns nr Y K V b ln sec B.2.1 (n0 - B.2.2.length) sP sI u.1 u.2.2.1 u.2.2.2) : StP ns nr Y K V b ln sec sP sI sT n0 B 0 u := by
  refine ⟨hq, Or.inr ?_⟩
  by_cases hE : atE B.2.2 = true
  · exact Or.inr ⟨rfl, by unfold fnF; rw [if_neg (fun z => z hB), if_pos hE], hT, hG⟩
  · exact Or.inl ⟨rfl, by unfold fnF; rw [if_neg (fun z => z hB), if_neg hE], hG.bd, _, hT, fun z => hE ((kAt_atE _).mp z)⟩
theorem StP.bad {sT : CS} {n0 : Nat} {B : BR} {u : CS × CS × CS × CS} {v : Int32} (hB : B.1 ≠ 0) (hl : B.1 ≤ 15) (hv : v = nI B.1) (hq : TQ sT u.2.1) (hT : ∃ ts', TPos ns Y u.2.1 ts') (hbd : Bd sP u.1 u.2.2.1 u.2.2.2) : StP ns nr Y K V b ln sec sP sI sT n0 B v u := by
  have e : fnF B = B.1 := by unfold fnF; rw [if_pos hB]
  exact ⟨hq, Or.inl ⟨by rw [hv]; exact fun z => hB ((fl_nI B.1 hl).mp z), by rw [e]; exact hv, hbd, hT⟩⟩
theorem C_readSpace (C : PCx N ns so va op re od nr lo sN sP) (hsb : SB b ln sec sP) (hFx : FixA ns so va lo η) (hdot : ∀ a : AT, a.nm = dotB → lo a = true) (hc : sP.1 1 = nI b) (hL : LOk sI b) (hb5 : b < 4990) (hKV : K.length = V.length) {ts : List AT} {S Z : List Int32} {sF sT : CS} (hF : FR4 sF K V S Z) (hT : TPos ns Y sT ts) (hE : HasE ts) (hNr : NrF ts) (hlv : ∀ a ∈ ts, levN (AT.k a) < 7) (hk : K.length + ts.length ≤ 60000) (n0 : Nat) :
    RC (tp sF sP sI x y) (C_Par_readSpace N sR sF sN sT sP sI) (fun v u c => c = tp u.1 u.2.2.1 u.2.2.2 x y ∧ StP ns nr Y K V b ln sec sP sI sT n0 ((f1T η lo 0 32768 ts).1, [(2, 0, (f1T η lo 0 32768 ts).2.1.toNatClampNeg, [], [])], (f1T η lo 0 32768 ts).2.2) v u) := by
  unfold C_Par_readSpace
  rw [tp_f]
  refine RC_then (C_readFixed C hFx hdot hc hL hKV hE hNr hlv hT hF hk 0 32768) (fun v u c hu => ?_)
  obtain ⟨rfl, h1, rfl, h3, h4, h5⟩ := hu
  rw [← tp_f]
  by_cases hz : (f1T η lo 0 32768 ts).1 = 0
  · obtain ⟨h6, h7, S', Z', h8⟩ := h5 hz
    refine RC_y ((fl_nI _ (f1T_le _ _ _ _ _)).mpr hz) ?_
    have hin := f1T_in hz
    refine RC_pl hsb (Gd.nil (ns := ns) (nr := nr) (Y := Y) hc hL h8 (n0 - (f1T η lo 0 32768 ts).2.2.length)) (by simp; omega) (2, 0, (f1T η lo 0 32768 ts).2.1.toNatClampNeg, [], []) 2 0 _ rfl (by decide) rfl (fun _ => by rw [h6]; exact (nI_c hin.1).symm) rfl (fun sP2 sI2 e hG => ?_)
    unfold C_Par_readSpace_29
    refine RC_ret ⟨rfl, ?_⟩
    rw [show nI (f1T η lo 0 32768 ts).1 = 0 by rw [hz]; rfl]
    exact StP.gd hz h1 h7 hG
  · refine RC_n (fun z => hz ((fl_nI _ (f1T_le _ _ _ _ _)).mp z)) ?_
    unfold C_Par_readSpace_29
    exact RC_ret ⟨rfl, StP.bad hz (f1T_le _ _ _ _ _) rfl h1 h4 ⟨h3, ⟨nI b, (cF_self sP hc).symm⟩, hL.z⟩⟩
theorem C_readAlign (C : PCx N ns so va op re od nr lo sN sP) (hsb : SB b ln sec sP) (hFx : FixA ns so va lo η) (hdot : ∀ a : AT, a.nm = dotB → lo a = true) (hc : sP.1 1 = nI b) (hL : LOk sI b) (hb5 : b < 4990) (hKV : K.length = V.length) {ts : List AT} {S Z : List Int32} {sF sT : CS} (hF : FR4 sF K V S Z) (hT : TPos ns Y sT ts) (hE : HasE ts) (hNr : NrF ts) (hlv : ∀ a ∈ ts, levN (AT.k a) < 7) (hk : K.length + ts.length ≤ 60000) (n0 : Nat) :
    RC (tp sF sP sI x y) (C_Par_readAlign N sR sF sN sT sP sI) (fun v u c => c = tp u.1 u.2.2.1 u.2.2.2 x y ∧ StP ns nr Y K V b ln sec sP sI sT n0 ((f1T η lo 0 10 ts).1, [(3, (f1T η lo 0 10 ts).2.1, 0, [], [])], (f1T η lo 0 10 ts).2.2) v u) := by
  unfold C_Par_readAlign
  rw [tp_f]
  refine RC_then (C_readFixed C hFx hdot hc hL hKV hE hNr hlv hT hF hk 0 10) (fun v u c hu => ?_)
  obtain ⟨rfl, h1, rfl, h3, h4, h5⟩ := hu
  rw [← tp_f]
  by_cases hz : (f1T η lo 0 10 ts).1 = 0
  · obtain ⟨h6, h7, S', Z', h8⟩ := h5 hz
    refine RC_y ((fl_nI _ (f1T_le _ _ _ _ _)).mpr hz) ?_
    refine RC_pl hsb (Gd.nil (ns := ns) (nr := nr) (Y := Y) hc hL h8 (n0 - (f1T η lo 0 10 ts).2.2.length)) (by simp; omega) (3, (f1T η lo 0 10 ts).2.1, 0, [], []) 3 _ 0 rfl (by decide) h6.symm (fun z => absurd rfl z) rfl (fun sP2 sI2 e hG => ?_)
    unfold C_Par_readAlign_29
    refine RC_ret ⟨rfl, ?_⟩
    rw [show nI (f1T η lo 0 10 ts).1 = 0 by rw [hz]; rfl]
    exact StP.gd hz h1 h7 hG
  · refine RC_n (fun z => hz ((fl_nI _ (f1T_le _ _ _ _ _)).mp z)) ?_
    unfold C_Par_readAlign_29
    exact RC_ret ⟨rfl, StP.bad hz (f1T_le _ _ _ _ _) rfl h1 h4 ⟨h3, ⟨nI b, (cF_self sP hc).symm⟩, hL.z⟩⟩
theorem C_addLoad {sF sT : CS} {S Z : List Int32} {kb : Nat} (hsb : SB b ln sec sP) (hc : sP.1 1 = nI b) (hL : LOk sI b) (hb5 : b < 4990) (hF : FR4 sF K V S Z) (bits v : Int32) : RC (tp sF sP sI x y) (C_Par_addLoad bits v sR sF sN sT sP sI) (fun _ u c => c = tp sF u.1 u.2 x y ∧ Gd ns nr Y K V b ln sec ((liI bits v).map (fun x => (0, x.1, x.2, [], []))) kb sP sI sF u.1 u.2) := by
  have G0 : Gd ns nr Y K V b ln sec [] kb sP sI sF sP sI := Gd.nil hc hL hF kb
  have fin : ∀ sP2 sI2 (l : List AI), l = (liI bits v).map (fun x => (0, x.1, x.2, [], [])) → Gd ns nr Y K V b ln sec l kb sP sI sF sP2 sI2 → RC (tp sF sP2 sI2 x y) (C_Par_addLoad_122 sR sF sN sT sP2 sI2) (fun _ u c => c = tp sF u.1 u.2 x y ∧ Gd ns nr Y K V b ln sec ((liI bits v).map (fun x => (0, x.1, x.2, [], []))) kb sP sI sF u.1 u.2) := by
    intro sP2 sI2 l el hG
    unfold C_Par_addLoad_122
    rw [← el]
    exact RC_ret ⟨rfl, hG⟩
  have e43 : ¬ (fitB 78 v = true ∧ bits ≠ 0) → RC (tp sF sP sI x y) (C_Par_addLoad_43 bits v (v <<< ((20 : Int32) &&& 31)) sR sF sN sT sP sI) (fun _ u c => c = tp sF u.1 u.2 x y ∧ Gd ns nr Y K V b ln sec ((liI bits v).map (fun x => (0, x.1, x.2, [], []))) kb sP sI sF u.1 u.2) := by
    intro hn
    unfold C_Par_addLoad_43
    refine RC_cr (C_fits _ _) ?_
    by_cases h2 : fitB 105 v = true
    · refine RC_n (by rw [h2]; decide) ?_
      refine RC_pl hsb G0 (by simp; omega) (0, _, 4, [], []) 0 _ 4 rfl (by decide) rfl (fun _ => rfl) rfl (fun sP2 sI2 _ hG => fin sP2 sI2 _ ?_ hG)
      unfold liI
      rw [if_neg hn, if_pos h2]
      rfl
    · refine RC_y (by rw [show fitB 105 v = false by simpa using h2]; rfl) ?_
      refine RC_pl hsb G0 (by simp; omega) (0, _, 4, [], []) 0 _ 4 rfl (by decide) rfl (fun _ => rfl) rfl (fun sP2 sI2 e2 hG => ?_)
      refine RC_if (fun h0 => fin sP2 sI2 _ ?_ hG) (fun h0 => ?_)
      · unfold liI
        rw [if_neg hn, if_neg h2, if_pos h0]
        rfl
      · refine RC_pl hsb hG (by simp; omega) (0, _, 4, [], []) 0 _ 4 rfl (by decide) rfl (fun _ => rfl) rfl (fun sP3 sI3 _ hG3 => fin sP3 sI3 _ ?_ hG3)
        unfold liI
        rw [if_neg hn, if_neg h2, if_neg h0]
        rfl
  unfold C_Par_addLoad
  refine RC_cr (C_fits _ _) ?_
  by_cases h1 : fitB 78 v = true
  · refine RC_n (by rw [h1]; decide) (RC_if (fun h0 => e43 (fun z => z.2 h0)) (fun h0 => ?_))
    refine RC_cr (C_scat _ _) ?_
    refine RC_pl hsb G0 (by simp; omega) (0, _, 2, [], []) 0 _ 2 rfl (by decide) rfl (fun _ => rfl) rfl (fun sP2 sI2 _ hG => fin sP2 sI2 _ ?_ hG)
    unfold liI
    rw [if_pos ⟨h1, h0⟩]
    rfl
  · exact RC_y (by rw [show fitB 78 v = false by simpa using h1]; rfl) (e43 (fun z => h1 z.1))
theorem ldT_f1 (η : Int32 → AT → Int32 × Bool) (lo : AT → Bool) (ts : List AT) : ldT η lo ts = if (regT 100 ts).1 ≠ 0 then ((regT 100 ts).1, 0, 0, []) else match tk1 44 (regT 100 ts).2.2 with
    | none => (1, 0, 0, [])
    | some x => if (f1T η lo (-2147483648) 2147483647 x.2).1 ≠ 0 then ((f1T η lo (-2147483648) 2147483647 x.2).1, 0, 0, []) else (0, (regT 100 ts).2.1, (f1T η lo (-2147483648) 2147483647 x.2).2.1, (f1T η lo (-2147483648) 2147483647 x.2).2.2) := by
  unfold ldT
  split
  · rfl
  · cases tk1 44 (regT 100 ts).2.2 with
    | none => rfl
    | some x =>
      simp only []
      unfold f1T
      cases cmpT x.2 with
      | none => rfl
      | some z =>
        simp only []
        by_cases h : fxF η lo (-2147483648) 2147483647 z.1 = 0
        · simp [h]
        · simp [h]
theorem tk1_e {k : Int32} {ts : List AT} (h : kAt ts 0 = k) (hk : k ≠ 0) : ∃ a r, ts = a :: r ∧ a.k = k ∧ tk1 k ts = some (a, r) := by
  cases ts with
  | nil => exact absurd h (fun z => hk z.symm)
  | cons a r => exact ⟨a, r, rfl, h, by show (if a.k = k then some (a, r) else none) = _; rw [if_pos (show a.k = k from h)]⟩
theorem tk1_n {k : Int32} {ts : List AT} (h : kAt ts 0 ≠ k) : tk1 k ts = none := by
  cases ts with
  | nil => rfl
  | cons a r => show (if a.k = k then some (a, r) else none) = _; rw [if_neg (show ¬ a.k = k from h)]
theorem C_readLoad (C : PCx N ns so va op re od nr lo sN sP) (hsb : SB b ln sec sP) (hFx : FixA ns so va lo η) (hdot : ∀ a : AT, a.nm = dotB → lo a = true) (hc : sP.1 1 = nI b) (hL : LOk sI b) (hb5 : b < 4990) (hKV : K.length = V.length) {ts : List AT} {S Z : List Int32} {sF sT : CS} (hF : FR4 sF K V S Z) (hT : TPos ns Y sT ts) (hE : HasE ts) (hNr : NrF ts) (hlv : ∀ a ∈ ts, levN (AT.k a) < 7) (hk : K.length + ts.length ≤ 60000) (n0 : Nat) :
    RC (tp sF sP sI x y) (C_Par_readLoad N sR sF sN sT sP sI) (fun v u c => c = tp u.1 u.2.2.1 u.2.2.2 x y ∧ StP ns nr Y K V b ln sec sP sI sT n0 ((ldT η lo ts).1, (liI (ldT η lo ts).2.1 (ldT η lo ts).2.2.1).map (fun x => (0, x.1, x.2, [], [])), (ldT η lo ts).2.2.2) v u) := by
  have bd0 : Bd sP sF sP sI := ⟨⟨_, _, _, _, hF⟩, ⟨nI b, (cF_self sP hc).symm⟩, hL.z⟩
  rw [ldT_f1]
  unfold C_Par_readLoad
  obtain ⟨v, sT', r1, r2, r3⟩ := C_readReg (sR := sR) (sF := sF) (sI := sI) C hT 100
  refine RC_cl r1 ?_
  rcases r3 with ⟨g1, rfl, g3, g4⟩ | ⟨g1, g2, g3, g4⟩
  · refine RC_y g3 ?_
    rw [if_neg (fun z => z g1)]
    have hk1 := T_kind g4 (j := 0) (by omega)
    change C_Tok_kind 0 sT' = some _ at hk1
    refine RC_cr hk1 ?_
    have hsf := regT_suf g1
    by_cases h44 : kAt (regT 100 ts).2.2 0 = 44
    · refine RC_y h44 ?_
      obtain ⟨a, r, er, ea, et⟩ := tk1_e h44 (by decide)
      rw [er] at g4
      obtain ⟨sT2, t1, t2, t3, t4⟩ := T_skip g4 (j := 1) (by omega)
      change C_Tok_skip 1 sT' = some (0, sT2) at t1
      change TPos ns Y sT2 r at t2
      refine RC_cl t1 ?_
      rw [et]
      simp only []
      have hE2 := hsf.hasE hE
      have hN2 := hsf.nrF hNr
      have hl2 := hsf.lev hlv
      have hle := hsf.len
      rw [er] at hE2 hN2 hl2 hle
      simp only [List.length_cons] at hle
      rw [tp_f]
      refine RC_then (C_readFixed C hFx hdot hc hL hKV (hE2.tl (by rw [ea]; decide)) (fun z h => hN2 z (List.mem_cons_of_mem _ h)) (fun z h => hl2 z (List.mem_cons_of_mem _ h)) t2 hF (by omega) _ _) (fun v u c hu => ?_)
      obtain ⟨rfl, h1, rfl, h3, h4, h5⟩ := hu
      rw [← tp_f]
      by_cases hz : (f1T η lo (-2147483648) 2147483647 r).1 = 0
      · obtain ⟨h6, h7, S', Z', h8⟩ := h5 hz
        refine RC_y ((fl_nI _ (f1T_le _ _ _ _ _)).mpr hz) ?_
        rw [if_neg (fun z => z hz), h6]
        refine RC_then (C_addLoad (ns := ns) (nr := nr) (Y := Y) (kb := n0 - (f1T η lo (-2147483648) 2147483647 r).2.2.length) hsb hc hL hb5 h8 _ _) (fun v2 u2 c2 hu2 => ?_)
        obtain ⟨rfl, hG⟩ := hu2
        unfold C_Par_readLoad_62
        refine RC_ret ⟨rfl, ?_⟩
        rw [show nI (f1T η lo (-2147483648) 2147483647 r).1 = 0 by rw [hz]; rfl]
        exact StP.gd rfl ((r2.tr ⟨t3, t4⟩).tr h1) h7 hG
      · refine RC_n (fun z => hz ((fl_nI _ (f1T_le _ _ _ _ _)).mp z)) ?_
        rw [if_pos hz]
        unfold C_Par_readLoad_62
        exact RC_ret ⟨rfl, StP.bad hz (f1T_le _ _ _ _ _) rfl ((r2.tr ⟨t3, t4⟩).tr h1) h4 ⟨h3, ⟨nI b, (cF_self sP hc).symm⟩, hL.z⟩⟩
    · refine RC_n h44 ?_
      rw [tk1_n h44]
      exact RC_ret ⟨rfl, StP.bad (by show (1 : Nat) ≠ 0; omega) (by show (1 : Nat) ≤ 15; omega) rfl r2 ⟨_, g4⟩ bd0⟩
  · refine RC_n g2 ?_
    rw [if_pos g1]
    exact RC_ret ⟨rfl, StP.bad g1 (regT_le _ _) g3 r2 ⟨_, g4⟩ bd0⟩
end
