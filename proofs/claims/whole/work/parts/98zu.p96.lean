/-! ===== the class's image ===== -/
def TPr (l : List Int32) (T B : Nat) (tx dt : List Int32) : Prop := l.length = T ∧ ∀ p, p < T → l.getD p 0 = if p < B then tx.getD p 0 else dt.getD (p - B) 0
def TP2 (l : List Int32) (T B sec : Nat) (tx dt bs : List Int32) : Prop := if sec = 1 then TPr l T B tx (dt ++ bs) else TPr l T B (tx ++ bs) dt
theorem rep_getD (L p : Nat) : (List.replicate L (0 : Int32)).getD p 0 = 0 := by
  by_cases h : p < L
  · rw [gD_e (by rw [List.length_replicate]; exact h), List.getElem_replicate]
  · rw [gD_o (by rw [List.length_replicate]; omega)]
theorem app_getD {A B : List Int32} (p : Nat) : (A ++ B).getD p 0 = if p < A.length then A.getD p 0 else B.getD (p - A.length) 0 := by
  by_cases h : p < A.length
  · rw [if_pos h, gD_l h]
  · rw [if_neg h, gD_r (by omega)]
theorem TP2_wr {l : List Int32} {T B sec : Nat} {tx dt bs : List Int32} (h : TP2 l T B sec tx dt bs) {ws new : List Int32} {at' L : Nat} (hL : new.length = L) (hw : ws = new ∨ (ws = [] ∧ new = List.replicate L 0)) (hat : at' = if sec = 1 then B + dt.length + bs.length else tx.length + bs.length) (hB : sec ≠ 1 → at' + L ≤ B) : TP2 (wr l at' ws) T B sec tx dt (bs ++ new) := by
  unfold TP2 at h ⊢
  have core : ∀ p, p < l.length → ((wr l at' ws).getD p 0 = if at' ≤ p ∧ p < at' + L then new.getD (p - at') 0 else l.getD p 0) ∨ (ws = [] ∧ (wr l at' ws).getD p 0 = l.getD p 0 ∧ new = List.replicate L 0) := by
    intro p hp
    rcases hw with z | ⟨z1, z2⟩
    · left
      rw [wr_at _ _ _ _ hp, z, hL]
    · right
      rw [z1]
      exact ⟨rfl, rfl, z2⟩
  by_cases hs : sec = 1
  · rw [if_pos hs] at h hat ⊢
    refine ⟨by rw [wr_len]; exact h.1, fun p hp => ?_⟩
    have hl := h.2 p hp
    rcases core p (by rw [h.1]; exact hp) with e | ⟨-, e, er⟩
    · rw [e]
      by_cases hpB : p < B
      · rw [if_neg (by omega), hl, if_pos hpB, if_pos hpB]
      · rw [if_neg hpB] at hl ⊢
        rw [← List.append_assoc, app_getD]
        by_cases hr : at' ≤ p ∧ p < at' + L
        · rw [if_pos hr, if_neg (by rw [List.length_append]; omega)]
          congr 1
          rw [List.length_append]; omega
        · rw [if_neg hr, hl]
          by_cases hlt : p - B < (dt ++ bs).length
          · rw [if_pos hlt]
          · rw [if_neg hlt, gD_o (by omega), gD_o (by rw [List.length_append] at hlt ⊢; omega)]
    · rw [e, hl]
      by_cases hpB : p < B
      · rw [if_pos hpB, if_pos hpB]
      · rw [if_neg hpB, if_neg hpB, ← List.append_assoc, app_getD (A := dt ++ bs), er, rep_getD]
        split
        · rfl
        · rw [gD_o (by omega)]
  · rw [if_neg hs] at h hat ⊢
    have hBB := hB hs
    refine ⟨by rw [wr_len]; exact h.1, fun p hp => ?_⟩
    have hl := h.2 p hp
    rcases core p (by rw [h.1]; exact hp) with e | ⟨-, e, er⟩
    · rw [e]
      by_cases hpB : p < B
      · rw [if_pos hpB] at hl ⊢
        rw [← List.append_assoc, app_getD]
        by_cases hr : at' ≤ p ∧ p < at' + L
        · rw [if_pos hr, if_neg (by rw [List.length_append]; omega)]
          congr 1
          rw [List.length_append]; omega
        · rw [if_neg hr, hl]
          by_cases hlt : p < (tx ++ bs).length
          · rw [if_pos hlt]
          · rw [if_neg hlt, gD_o (by omega), gD_o (by rw [List.length_append] at hlt ⊢; omega)]
      · rw [if_neg (by omega), hl, if_neg hpB, if_neg hpB]
    · rw [e, hl]
      by_cases hpB : p < B
      · rw [if_pos hpB, if_pos hpB, ← List.append_assoc, app_getD (A := tx ++ bs), er, rep_getD]
        split
        · rfl
        · rw [gD_o (by omega)]
      · rw [if_neg hpB, if_neg hpB]
theorem rep_add (a b : Nat) (v : Int32) : List.replicate (a + b) v = List.replicate a v ++ List.replicate b v := by
  rw [List.replicate_append_replicate]
theorem szL_app : ∀ (A B : List AI) (off : Nat), szL off (A ++ B) = szL off A + szL (off + szL off A) B
  | [], B, off => by rw [List.nil_append]; show szL off B = 0 + szL (off + 0) B; rw [Nat.zero_add, Nat.add_zero]
  | i :: A, B, off => by
    rw [List.cons_append]
    show lenI off i + szL (off + lenI off i) (A ++ B) = (lenI off i + szL (off + lenI off i) A) + szL (off + (lenI off i + szL (off + lenI off i) A)) B
    rw [szL_app A B, ← Nat.add_assoc off, ← Nat.add_assoc (lenI off i)]
theorem szL_take {its : List AI} {j : Nat} {it : AI} (h : its[j]? = some it) (off : Nat) : szL off (its.take (j + 1)) = szL off (its.take j) + lenI (off + szL off (its.take j)) it := by
  rw [List.take_succ, h, szL_app]
  rfl
/-- what an item puts into the image -/
def pcI (η : Int32 → AT → Int32 × Bool) (a : Int32) (off : Nat) (i : AI) : List Int32 := if i.1 = 3 then List.replicate (lenI off i) 0 else byI η a i
def ebE (X : List Int32) (E : List Ev) (s : Sz) (e : Ev) : List Int32 := e.2.2.2.2.2.flatMap (pcI (ηE X E s e) (aE E s e) (offS s e.2.2.2.1))
def elE (s : Sz) (e : Ev) : List Int32 := List.replicate (szL (offS s e.2.2.2.1) e.2.2.2.2.2) (nI e.2.2.1)
theorem flat_take {α β : Type} {f : α → List β} {l : List α} {j : Nat} {a : α} (h : l[j]? = some a) : (l.take (j + 1)).flatMap f = (l.take j).flatMap f ++ f a := by
  rw [List.take_succ, h, List.flatMap_append]
  congr 1
  show [a].flatMap f = f a
  rw [List.flatMap_cons, List.flatMap_nil, List.append_nil]
section
variable {N : Nat} {X : List Int32} {ns : List (List Int32)} {Y K V so va op re od : List Int32} {sP sI sE sE0 sY sN sT sF : CS} {E : List Ev} {x y : Nat} {S : List Int32}
/-- pieces have the items' lengths -/
theorem pc_len (hX : X.length ≤ 4096) (hW : WfE X E) {E1 E2 : List Ev} {e : Ev} (hE : E = E1 ++ e :: E2) (h5 : e.1 = 5) (s : Sz) : ∀ j it, e.2.2.2.2.2[j]? = some it → (pcI (ηE X E s e) (aE E s e) (offS s e.2.2.2.1) it).length = lenI (offS s e.2.2.2.1 + szL (offS s e.2.2.2.1) (e.2.2.2.2.2.take j)) it := by
  intro j it hj
  have hmem := List.mem_of_getElem? hj
  unfold pcI
  by_cases c3 : it.1 = 3
  · rw [if_pos c3, List.length_replicate]
    have hS := (WfE_SI hX hW e (by rw [hE]; simp)).1 h5
    have hj0 : j = 0 := by
      rcases hS with ⟨p1, -⟩ | ⟨n, p1, p2⟩ | ⟨mk, w, lev, R, p1, p2, p3, p4⟩
      · exact absurd c3 (p1 it hmem).1
      · have := getE_lt hj; rw [p2] at this; simp only [List.length_cons, List.length_nil] at this; omega
      · have := getE_lt hj; rw [p1] at this; simp only [List.length_cons, List.length_nil] at this; omega
    rw [hj0, List.take_zero]
    rfl
  · rw [if_neg c3, byI_len (WfE_it hW hE h5 it hmem)]
    unfold lenI
    rw [if_neg c3]
theorem eb_take (hX : X.length ≤ 4096) (hW : WfE X E) {E1 E2 : List Ev} {e : Ev} (hE : E = E1 ++ e :: E2) (h5 : e.1 = 5) (s : Sz) : ∀ j, j ≤ e.2.2.2.2.2.length → ((e.2.2.2.2.2.take j).flatMap (pcI (ηE X E s e) (aE E s e) (offS s e.2.2.2.1))).length = szL (offS s e.2.2.2.1) (e.2.2.2.2.2.take j) := by
  intro j
  induction j with
  | zero => intro _; rfl
  | succ j ih =>
    intro hj
    obtain ⟨it, hit⟩ : ∃ it, e.2.2.2.2.2[j]? = some it := ⟨_, List.getElem?_eq_getElem (by omega)⟩
    rw [flat_take hit, List.length_append, ih (by omega), szL_take hit, pc_len hX hW hE h5 s j it hit]
theorem eb_len (hX : X.length ≤ 4096) (hW : WfE X E) {E1 E2 : List Ev} {e : Ev} (hE : E = E1 ++ e :: E2) (h5 : e.1 = 5) (s : Sz) : (ebE X E s e).length = szL (offS s e.2.2.2.1) e.2.2.2.2.2 := by
  have := eb_take hX hW hE h5 s e.2.2.2.2.2.length (Nat.le_refl _)
  rw [List.take_of_length_le (Nat.le_refl _)] at this
  exact this
/-- where an event lies -/
theorem off_in (hX : X.length ≤ 4096) (hW : WfE X E) {E1 E2 : List Ev} {e : Ev} (hE : E = E1 ++ e :: E2) : offS (lay (0, 0) E1) e.2.2.2.1 + szL (offS (lay (0, 0) E1) e.2.2.2.1) e.2.2.2.2.2 ≤ offS (lay (0, 0) E) e.2.2.2.1 := by
  have h1 : lay (0, 0) E = lay (stepE (lay (0, 0) E1) e) E2 := by rw [hE, lay_app, lay_cons]
  have hSI := WfE_SI hX hW
  have h2 := lay_le E2 (stepE (lay (0, 0) E1) e) (fun x hx => hSI x (by rw [hE]; exact List.mem_append_right _ (List.mem_cons_of_mem _ hx)))
  rw [h1]
  unfold offS
  by_cases hs : e.2.2.2.1 = 1
  · rw [if_pos hs, if_pos hs]
    have : (stepE (lay (0, 0) E1) e).2 = (lay (0, 0) E1).2 + szL (lay (0, 0) E1).2 e.2.2.2.2.2 := by unfold stepE; rw [if_pos hs]
    omega
  · rw [if_neg hs, if_neg hs]
    have : (stepE (lay (0, 0) E1) e).1 = (lay (0, 0) E1).1 + szL (lay (0, 0) E1).1 e.2.2.2.2.2 := by unfold stepE; rw [if_neg hs]
    omega
theorem base_ge (n : Nat) : n ≤ baseN n ∧ baseN n ≤ n + 1023 := by
  unfold baseN
  have := Nat.div_add_mod (n + 1023) 1024
  have := Nat.mod_lt (n + 1023) (show 0 < 1024 by omega)
  omega
/-- one event's items -/
theorem C_encEv (hN : 70000 < N) (h : PRG X ns Y K V so va E sP sI) (hV : ∀ c ∈ X, okT c) (hNL : NmS sN ns so va op re od) (h20 : sP.2.2 20 = 10) (hK : K.length ≤ 60000) (hY : RowL sY Y) {E1 E2 : List Ev} {e : Ev} (hE : E = E1 ++ e :: E2) (h5 : e.1 = 5) {tx dt tx1 dt1 : List Int32} (ht : tx.length = (lay (0, 0) E1).1) (hd : dt.length = (lay (0, 0) E1).2) (ht1 : tx1.length = (lay (0, 0) E1).1) (hd1 : dt1.length = (lay (0, 0) E1).2) {Q : Int32 → CS × CS → Nat × Nat → Prop} :
    ∀ (n j m : Nat) (l l1 Z : List Int32) (sE sF : CS), j + n = e.2.2.2.2.2.length → n ≤ m → ES sE0 sE l l1 → FR4 sF K V S Z → TP2 l (allN E) (bsE E) e.2.2.2.1 tx dt ((e.2.2.2.2.2.take j).flatMap (pcI (ηE X E (lay (0, 0) E1) e) (aE E (lay (0, 0) E1) e) (offS (lay (0, 0) E1) e.2.2.2.1))) → TP2 l1 (allN E) (bsE E) e.2.2.2.1 tx1 dt1 (List.replicate (szL (offS (lay (0, 0) E1) e.2.2.2.1) (e.2.2.2.2.2.take j)) (nI e.2.2.1)) →
    (ckB (ηE X E (lay (0, 0) E1) e) (aE E (lay (0, 0) E1) e) (e.2.2.2.2.2.drop j) = 0 → ∀ sE' sF' Z' l' l1', ES sE0 sE' l' l1' → FR4 sF' K V S Z' → TP2 l' (allN E) (bsE E) e.2.2.2.1 tx dt (ebE X E (lay (0, 0) E1) e) → TP2 l1' (allN E) (bsE E) e.2.2.2.1 tx1 dt1 (elE (lay (0, 0) E1) e) → RC (fp sF' x y) (C_Enc_encodeAll_30 N (m - n) (nI (cI E1 + e.2.2.2.2.2.length)) sE' sY sF' sN sT sP sI) Q) →
    (ckB (ηE X E (lay (0, 0) E1) e) (aE E (lay (0, 0) E1) e) (e.2.2.2.2.2.drop j) ≠ 0 → ∀ sE' sF', (∃ l l1, ES sE0 sE' l l1) → FVal sF' → Q (nI (ckB (ηE X E (lay (0, 0) E1) e) (aE E (lay (0, 0) E1) e) (e.2.2.2.2.2.drop j) + 16 * e.2.2.1)) (sE', sF') (fp sF' x y)) →
    RC (fp sF x y) (C_Enc_encodeAll_30 N m (nI (cI E1 + j)) sE sY sF sN sT sP sI) Q := by
  have h' := h
  obtain ⟨hX, hW, hNm, hPr, hL, hc, hPl⟩ := h
  intro n
  induction n with
  | zero =>
    intro j m l l1 Z sE sF hj hm hS hF hT hT1 good _
    rw [show j = e.2.2.2.2.2.length by omega] at hT hT1 good ⊢
    rw [List.take_of_length_le (Nat.le_refl _)] at hT hT1
    rw [List.drop_eq_nil_of_le (Nat.le_refl _)] at good
    exact good rfl sE sF Z l l1 hS hF hT hT1
  | succ n ih =>
    intro j m l l1 Z sE sF hj hm hS hF hT hT1 good bad
    obtain ⟨m', rfl⟩ : ∃ m', m = m' + 1 := ⟨m - 1, by omega⟩
    obtain ⟨it, hit⟩ : ∃ it, e.2.2.2.2.2[j]? = some it := ⟨_, List.getElem?_eq_getElem (by omega)⟩
    have hdrop : e.2.2.2.2.2.drop j = it :: e.2.2.2.2.2.drop (j + 1) := by
      have hjl := getE_lt hit
      rw [List.drop_eq_getElem_cons hjl]
      congr 1
      rw [List.getElem?_eq_getElem hjl] at hit
      exact Option.some.inj hit
    have hla := lay_all hX hW
    have hin := off_in hX hW hE
    have hst := szL_take hit (offS (lay (0, 0) E1) e.2.2.2.1)
    have hle : szL (offS (lay (0, 0) E1) e.2.2.2.1) (e.2.2.2.2.2.take (j + 1)) ≤ szL (offS (lay (0, 0) E1) e.2.2.2.1) e.2.2.2.2.2 := by
      conv => rhs; rw [← List.take_append_drop (j + 1) e.2.2.2.2.2]
      rw [szL_app]
      omega
    have hbase := base_ge (lay (0, 0) E).1
    have hmem := List.mem_of_getElem? hit
    obtain ⟨L, hLd⟩ : ∃ L, L = lenI (offS (lay (0, 0) E1) e.2.2.2.1 + szL (offS (lay (0, 0) E1) e.2.2.2.1) (e.2.2.2.2.2.take j)) it := ⟨_, rfl⟩
    rw [← hLd] at hst
    obtain ⟨at', hatd⟩ : ∃ at', at' = adS (bsE E) (lay (0, 0) E1) e.2.2.2.1 + szL (offS (lay (0, 0) E1) e.2.2.2.1) (e.2.2.2.2.2.take j) := ⟨_, rfl⟩
    have hpl := pc_len hX hW hE h5 (lay (0, 0) E1) j it hit
    rw [← hLd] at hpl
    have hebl := eb_take hX hW hE h5 (lay (0, 0) E1) j (by omega)
    have hbs : bsE E = baseN (lay (0, 0) E).1 := rfl
    have hT1l : l1.length = allN E := by
      unfold TP2 at hT1
      split at hT1 <;> exact hT1.1
    -- bounds, by section
    have hbd : at' + L < 2 ^ 28 ∧ (L = 0 ∨ at' + L ≤ l1.length) ∧ (e.2.2.2.1 ≠ 1 → at' + L ≤ bsE E) ∧ at' = (if e.2.2.2.1 = 1 then bsE E + dt.length + szL (offS (lay (0, 0) E1) e.2.2.2.1) (e.2.2.2.2.2.take j) else tx.length + szL (offS (lay (0, 0) E1) e.2.2.2.1) (e.2.2.2.2.2.take j)) := by
      rw [hT1l, hatd]
      unfold adS allN
      by_cases hs : e.2.2.2.1 = 1
      · have o1 : ∀ s : Sz, offS s e.2.2.2.1 = s.2 := fun s => by unfold offS; rw [if_pos hs]
        rw [o1] at hin hst hle
        rw [o1] at hin
        rw [if_pos hs, if_pos hs, o1]
        refine ⟨by omega, ?_, fun z => absurd hs z, by omega⟩
        by_cases hz : L = 0
        · exact Or.inl hz
        · right
          rw [if_neg (by omega)]
          omega
      · have o1 : ∀ s : Sz, offS s e.2.2.2.1 = s.1 := fun s => by unfold offS; rw [if_neg hs]
        rw [o1] at hin hst hle
        rw [o1] at hin
        rw [if_neg hs, if_neg hs, o1]
        refine ⟨by omega, Or.inr ?_, fun _ => by omega, by omega⟩
        split <;> omega
    obtain ⟨b1, b2, b3, b4⟩ := hbd
    refine C_slot hN h' hV hNL h20 hK hF hY hE h5 hit hatd hLd hS b2 b1 (fun hz sE' sF' Z' hS' hF' => ?_) (fun hz sE' sF' hS' hF' => ?_)
    · rw [show cI E1 + j + 1 = cI E1 + (j + 1) by omega]
      have hck : ckB (ηE X E (lay (0, 0) E1) e) (aE E (lay (0, 0) E1) e) (e.2.2.2.2.2.drop j) = ckB (ηE X E (lay (0, 0) E1) e) (aE E (lay (0, 0) E1) e) (e.2.2.2.2.2.drop (j + 1)) := by
        rw [hdrop, ckB, if_neg (fun z => z hz)]
      rw [hck] at good bad
      rw [show m' + 1 - (n + 1) = m' - n by omega] at good
      refine ih (j + 1) m' _ _ Z' sE' sF' (by omega) (by omega) hS' hF' ?_ ?_ good bad
      · rw [flat_take hit]
        refine TP2_wr hT hpl ?_ (by rw [b4, hebl]) b3
        by_cases h123 : it.1 = 1 ∨ it.1 = 2 ∨ it.1 = 3
        · right
          refine ⟨by unfold wI; rw [if_pos h123], ?_⟩
          unfold pcI
          have hI := WfE_it hW hE h5 it hmem
          rcases h123 with z | z | z
          · exact absurd z hI.1
          · rw [if_neg (by rw [z]; decide)]
            unfold byI
            rw [if_neg (by rw [z]; decide), if_pos z]
            congr 1
            rw [hLd]
            unfold lenI
            rw [if_neg (by rw [z]; decide)]
          · rw [if_pos z]
            have hpl' := hpl
            unfold pcI at hpl'
            rw [if_pos z, List.length_replicate] at hpl'
            rw [hpl']
        · left
          unfold wI pcI
          rw [if_neg h123, if_neg (fun z => h123 (Or.inr (Or.inr z)))]
      · rw [hst, rep_add]
        refine TP2_wr hT1 (by rw [List.length_replicate]) (Or.inl rfl) ?_ b3
        rw [b4, List.length_replicate, hd1, ht1, hd, ht]
    · have hck : ckB (ηE X E (lay (0, 0) E1) e) (aE E (lay (0, 0) E1) e) (e.2.2.2.2.2.drop j) = ckI (ηE X E (lay (0, 0) E1) e) (aE E (lay (0, 0) E1) e) it := by
        rw [hdrop, ckB, if_pos hz]
      rw [hck] at bad
      exact bad hz sE' sF' hS' hF'
end
