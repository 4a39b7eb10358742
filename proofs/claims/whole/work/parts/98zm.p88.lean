/-! ===== what names and near labels come to: both sides ===== -/
theorem nrS_app (X : List Int32) (st : Nat) (d : Int32) (fw : Bool) : ∀ (A B : List Lb) (acc : Option Nat) (i : Nat), nrS X st d fw acc (A ++ B) i = nrS X st d fw (nrS X st d fw acc A i) B (i + A.length)
  | [], B, acc, i => rfl
  | l :: A, B, acc, i => by
    rw [List.cons_append, nrS, nrS, List.length_cons]
    split
    · rw [nrS_app X st d fw A B, show i + 1 + A.length = i + (A.length + 1) by omega]
    · rw [nrS_app X st d fw A B, show i + 1 + A.length = i + (A.length + 1) by omega]
def DgE (X : List Int32) (e : Ev) : Prop := isNr e = true → isDg (tw X e.2.1) = true
theorem dg_iff {X : List Int32} {e : Ev} (h : isDg (tw X e.2.1) = true) (d : Nat) (hd : d < 10) : tw X e.2.1 - 48 = nI d ↔ dg X e = d := by
  obtain ⟨k, k1, k2, k3⟩ := dg_n h
  unfold dg
  rw [k3, show (48 : Int32) = nI 48 from rfl, pk_sub k1, nI_clamp (by omega), nI_eq (by omega) (by omega)]
theorem lbS_one (s : Sz) (e : Ev) : lbS s [e] = if e.1 < 5 then [(e.2.1, e.1, if e.1 = 2 then e.2.2.2.2.1 else nI (offS s e.2.2.2.1))] else [] := by
  show _ ++ [] = _
  rw [List.append_nil]
theorem nr_one {X : List Int32} {st : Nat} {d : Nat} (hd : d < 10) (fw : Bool) {e : Ev} (hk : e.1 ≤ 5) (hg : DgE X e) (s : Sz) (acc : Option Nat) (i : Nat) : nrS X st (nI d) fw acc (lbS s [e]) i = if isNr e = true ∧ dg X e = d ∧ fw = decide (st < e.2.1) ∧ (fw = false ∨ acc = none) then some i else acc := by
  rw [lbS_one]
  by_cases h5 : e.1 < 5
  · rw [if_pos h5, nrS]
    by_cases hn : isNr e = true
    · have h3 : 3 ≤ e.1 := by unfold isNr at hn; have := of_decide_eq_true hn; omega
      have hdg := dg_iff (hg hn) d hd
      by_cases hc : dg X e = d ∧ fw = decide (st < e.2.1) ∧ (fw = false ∨ acc = none)
      · rw [if_pos ⟨h3, hdg.mpr hc.1, hc.2⟩, if_pos ⟨hn, hc⟩]; rfl
      · rw [if_neg (fun z => hc ⟨hdg.mp z.2.1, z.2.2⟩), if_neg (fun z => hc z.2)]; rfl
    · have h3 : ¬ 3 ≤ e.1 := by
        intro z
        apply hn
        unfold isNr
        exact decide_eq_true (by omega)
      rw [if_neg (fun z => h3 z.1), if_neg (fun z => hn z.1)]; rfl
  · rw [if_neg h5, if_neg (fun z => ?_)]
    · rfl
    · have := z.1
      unfold isNr at this
      have := of_decide_eq_true this
      omega
theorem nrS_cons {X : List Int32} {st : Nat} {d : Nat} (hd : d < 10) (fw : Bool) {e : Ev} (hk : e.1 ≤ 5) (hg : DgE X e) (s : Sz) (acc : Option Nat) (r : List Ev) (i : Nat) : nrS X st (nI d) fw acc (lbS s (e :: r)) i = nrS X st (nI d) fw (if isNr e = true ∧ dg X e = d ∧ fw = decide (st < e.2.1) ∧ (fw = false ∨ acc = none) then some i else acc) (lbS (stepE s e) r) (i + (LbE [e]).length) := by
  rw [show e :: r = [e] ++ r from rfl, lbS_app, nrS_app, nr_one hd fw hk hg, lbS_len]
  rfl
/-- backwards: the last one in front -/
theorem nr_back {X : List Int32} {st : Nat} {d : Nat} (hd : d < 10) (s : Sz) : ∀ (m : Nat) (E1 : List Ev), E1.length = m → (∀ g ∈ E1, g.2.1 < st ∧ g.1 ≤ 5 ∧ DgE X g) → (nrS X st (nI d) false none (lbS s E1) 0 = none ∧ nrE X E1 d = d) ∨ ∃ F1 f F2, E1 = F1 ++ f :: F2 ∧ isNr f = true ∧ nrE X E1 d = cI F1 ∧ nrS X st (nI d) false none (lbS s E1) 0 = some (LbE F1).length := by
  intro m
  induction m with
  | zero =>
    intro E1 h _
    rw [List.length_eq_zero_iff.mp h]
    exact Or.inl ⟨rfl, rfl⟩
  | succ m ih =>
    intro E1 h hg
    rcases List.eq_nil_or_concat E1 with rfl | ⟨F, e, rfl⟩
    · simp at h
    · rw [List.concat_eq_append] at h hg ⊢
      have he := hg e (by simp)
      rw [lbS_app, nrS_app, nr_one hd false he.2.1 he.2.2, nrE_snoc, lbS_len, Nat.zero_add]
      have hlt : false = decide (st < e.2.1) := (decide_eq_false (by omega)).symm
      by_cases hc : isNr e = true ∧ dg X e = d
      · rw [if_pos ⟨hc.1, hc.2, hlt, Or.inl rfl⟩, if_pos hc.1]
        refine Or.inr ⟨F, e, [], rfl, hc.1, ?_, rfl⟩
        unfold updN
        rw [if_pos hc.2.symm]
      · rw [if_neg (fun z => hc ⟨z.1, z.2.1⟩)]
        have e2 : (if isNr e = true then updN (nrE X F) (dg X e) (cI F) else nrE X F) d = nrE X F d := by
          split
          · rename_i hn
            unfold updN
            rw [if_neg (fun z => hc ⟨hn, z.symm⟩)]
          · rfl
        rw [e2]
        rcases ih F (by simp at h; exact h) (fun g hgm => hg g (List.mem_append_left _ hgm)) with z | ⟨F1, f, F2, z1, z2, z3, z4⟩
        · exact Or.inl z
        · exact Or.inr ⟨F1, f, F2 ++ [e], by rw [z1]; simp, z2, z3, z4⟩
theorem nr_keep {X : List Int32} {st : Nat} {d : Nat} (hd : d < 10) (fw : Bool) : ∀ (E2 : List Ev) (s : Sz) (acc : Option Nat) (i : Nat), (∀ g ∈ E2, fw ≠ decide (st < g.2.1) ∧ g.1 ≤ 5 ∧ DgE X g) → nrS X st (nI d) fw acc (lbS s E2) i = acc
  | [], s, acc, i, _ => rfl
  | e :: r, s, acc, i, h => by
    have he := h e List.mem_cons_self
    rw [nrS_cons hd fw he.2.1 he.2.2, if_neg (fun z => he.1 z.2.2.1)]
    exact nr_keep hd fw r _ _ _ (fun g hg => h g (List.mem_cons_of_mem _ hg))
theorem nr_some {X : List Int32} {st : Nat} {d : Nat} (hd : d < 10) : ∀ (E2 : List Ev) (s : Sz) (a i : Nat), (∀ g ∈ E2, g.1 ≤ 5 ∧ DgE X g) → nrS X st (nI d) true (some a) (lbS s E2) i = some a
  | [], s, a, i, _ => rfl
  | e :: r, s, a, i, h => by
    have he := h e List.mem_cons_self
    rw [nrS_cons hd true he.1 he.2, if_neg (fun z => by rcases z.2.2.2 with z | z <;> cases z)]
    exact nr_some hd r _ _ _ (fun g hg => h g (List.mem_cons_of_mem _ hg))
/-- forwards: the first one behind -/
theorem nr_fwd {X : List Int32} {st : Nat} {d k : Nat} (hd : d < 10) : ∀ (E2 : List Ev) (s : Sz) (i i' : Nat), (∀ g ∈ E2, st < g.2.1 ∧ g.1 ≤ 5 ∧ DgE X g) → k < i' → (nrS X st (nI d) true none (lbS s E2) i = none ∧ nxA X d k i' E2 = none) ∨ ∃ F1 f F2, E2 = F1 ++ f :: F2 ∧ isNr f = true ∧ nrS X st (nI d) true none (lbS s E2) i = some (i + (LbE F1).length) ∧ nxA X d k i' E2 = some (i' + (F1.map nit).sum)
  | [], s, i, i', _, _ => Or.inl ⟨rfl, rfl⟩
  | e :: r, s, i, i', h, hk => by
    have he := h e List.mem_cons_self
    rw [nrS_cons hd true he.2.1 he.2.2, nxA]
    have hlt : true = decide (st < e.2.1) := (decide_eq_true he.1).symm
    by_cases hc : isNr e = true ∧ dg X e = d
    · rw [if_pos ⟨hc.1, hc.2, hlt, Or.inr rfl⟩, if_pos ⟨hc.1, hc.2, hk⟩, nr_some hd r _ _ _ (fun g hg => (h g (List.mem_cons_of_mem _ hg)).2)]
      exact Or.inr ⟨[], e, r, rfl, hc.1, rfl, rfl⟩
    · rw [if_neg (fun z => hc ⟨z.1, z.2.1⟩), if_neg (fun z => hc ⟨z.1, z.2.1⟩)]
      rcases nr_fwd (k := k) hd r (stepE s e) (i + (LbE [e]).length) (i' + nit e) (fun g hg => h g (List.mem_cons_of_mem _ hg)) (by omega) with z | ⟨F1, f, F2, z1, z2, z3, z4⟩
      · exact Or.inl z
      · refine Or.inr ⟨e :: F1, f, F2, by rw [z1]; rfl, z2, ?_, ?_⟩
        · rw [z3, show e :: F1 = [e] ++ F1 from rfl, LbE_app, List.length_append]
          congr 1; omega
        · rw [z4, List.map_cons, List.sum_cons]
          congr 1; omega
theorem nxA_app (X : List Int32) (d k : Nat) : ∀ (A B : List Ev) (i : Nat), nxA X d k i A = none → nxA X d k i (A ++ B) = nxA X d k (i + (A.map nit).sum) B
  | [], B, i, _ => rfl
  | a :: A, B, i, h => by
    rw [nxA] at h
    rw [List.cons_append, nxA]
    by_cases hc : isNr a = true ∧ dg X a = d ∧ k < i
    · rw [if_pos hc] at h; cases h
    · rw [if_neg hc] at h ⊢
      rw [nxA_app X d k A B _ h, List.map_cons, List.sum_cons]
      congr 1; omega
section
variable {X : List Int32} {ns : List (List Int32)} {Y K V so va : List Int32} {sP sI : CS} {E : List Ev}
/-- what is known of the class's program when places are found -/
def PRG (X : List Int32) (ns : List (List Int32)) (Y K V so va : List Int32) (E : List Ev) (sP sI : CS) : Prop := X.length ≤ 4096 ∧ WfE X E ∧ NmE X ns so va E ∧ PrI X ns Y K V sI E ∧ LOk sI (cI E) ∧ sP.1 1 = nI (cI E) ∧ PlL E sP sI
theorem WfE.ev (hW : WfE X E) {E1 E2 : List Ev} {e : Ev} (hE : E = E1 ++ e :: E2) : (∀ g ∈ E1, g.2.1 < e.2.1 ∧ g.1 ≤ 5 ∧ DgE X g) ∧ (∀ g ∈ E2, e.2.1 < g.2.1 ∧ g.1 ≤ 5 ∧ DgE X g) := by
  have one : ∀ (F1 F2 : List Ev) (g : Ev), E = F1 ++ g :: F2 → g.1 ≤ 5 ∧ DgE X g := by
    intro F1 F2 g hg
    have := hW F1 g F2 hg
    refine ⟨this.kd.1, fun hn => this.2.2.2.2.2.2.2.2 ?_⟩
    unfold isNr at hn
    exact of_decide_eq_true hn
  refine ⟨fun g hg => ?_, fun g hg => ?_⟩
  · obtain ⟨A, B, rfl⟩ := List.append_of_mem hg
    exact ⟨(hW _ e E2 hE).1 g hg, one A (B ++ e :: E2) g (by rw [hE]; simp)⟩
  · obtain ⟨A, B, rfl⟩ := List.append_of_mem hg
    exact ⟨(hW (E1 ++ e :: A) g B (by rw [hE]; simp)).1 e (by simp), one (E1 ++ e :: A) B g (by rw [hE]; simp)⟩
theorem adrC_at {cnt k : Nat} (hk : k < cnt) (hcnt : cnt < 2 ^ 31) {sec : Nat} (h1 : sI.2.1 (k + 1) 1 = b2 (decide (sec = 1))) {B off : Nat} (h3 : sP.1 3 = nI B) (h5 : sI.2.1 (k + 1) 5 = nI off) : adrC sP sI cnt (nI k) = nI (if sec = 1 then B + off else off) := by
  unfold adrC
  rw [fnI_nI hk hcnt, if_neg (by omega), h1, h5, h3]
  by_cases hs : sec = 1
  · rw [decide_eq_true hs, if_neg (by decide), if_pos hs, nI_add]
  · rw [decide_eq_false hs, if_pos (by decide), if_neg hs]
theorem adr_lab (h : PRG X ns Y K V so va E sP sI) {F1 F2 : List Ev} {f : Ev} (hE : E = F1 ++ f :: F2) (h5 : f.1 ≠ 5) (h2 : f.1 ≠ 2) : adrC sP sI (cI E) (nI (cI F1)) = valL (nI (bsE E)) ((lbS (0, 0) E).getD (LbE F1).length lb0) := by
  obtain ⟨hX, hW, -, hPr, hL, hc, p2, p7, p3, pE⟩ := h
  have hwf := hW F1 f F2 hE
  have hkd := hwf.kd
  have hL5 := hL.2.2.1
  have hLc := hL.1
  have hci := cI_split hE
  have hnit : nit f = 1 := by unfold nit; rw [if_neg h2, if_neg h5]
  have k01 : ¬ (f.1 = 3 ∨ f.1 = 4) → f.1 = 0 ∨ f.1 = 1 := by have := hkd.1; omega
  have hlt5 : f.1 < 5 := by have := hkd.1; omega
  have hlt : cI F1 < cI E := by omega
  have h31 : cI E < 2 ^ 31 := by omega
  have h1 : sI.2.1 (cI F1 + 1) 1 = b2 (decide (f.2.2.2.1 = 1)) := by
    by_cases h34 : f.1 = 3 ∨ f.1 = 4
    · exact ((hPr.2 F1 f F2 hE).2.2 h34).1
    · obtain ⟨i, -, -, i3⟩ := (hPr.2 F1 f F2 hE).2.1 (k01 h34)
      exact i3.1
  rw [adrC_at hlt h31 h1 p3 ((pE F1 f F2 hE).2 h5 h2)]
  have hat : (lbS (0, 0) E).getD (LbE F1).length lb0 = (f.2.1, f.1, nI (offS (lay (0, 0) F1) f.2.2.2.1)) := by
    rw [hE, lbS_app, ← lbS_len F1 (0, 0), show lbS (lay (0, 0) F1) (f :: F2) = (if f.1 < 5 then [(f.2.1, f.1, if f.1 = 2 then f.2.2.2.2.1 else nI (offS (lay (0, 0) F1) f.2.2.2.1))] else []) ++ lbS (stepE (lay (0, 0) F1) f) F2 from rfl, if_pos hlt5, if_neg h2]
    exact getD_mid _ _ _ _
  rw [hat]
  unfold valL
  simp only []
  have hiff := hkd.2.2 h2 h5
  by_cases hs : f.2.2.2.1 = 1
  · rw [if_pos hs, if_pos (hiff.mpr hs), nI_add]
  · rw [if_neg hs, if_neg (fun z => hs (hiff.mp z))]
theorem adr_it (h : PRG X ns Y K V so va E sP sI) {E1 E2 : List Ev} {e : Ev} (hE : E = E1 ++ e :: E2) (h5 : e.1 = 5) {j : Nat} {it : AI} (hj : e.2.2.2.2.2[j]? = some it) : adrC sP sI (cI E) (nI (cI E1 + j)) = nI (adS (bsE E) (lay (0, 0) E1) e.2.2.2.1 + szL (offS (lay (0, 0) E1) e.2.2.2.1) (e.2.2.2.2.2.take j)) := by
  obtain ⟨hX, hW, -, hPr, hL, hc, p2, p7, p3, pE⟩ := h
  have hci := cI_split hE
  rw [nit_5 h5] at hci
  have hjl := getE_lt hj
  have hL5 := hL.2.2.1
  have hLc := hL.1
  have h1 := ((hPr.2 E1 e E2 hE).1 h5 j it hj).2.1
  rw [adrC_at (by omega) (by omega) h1 p3 (((pE E1 e E2 hE).1 h5 j it hj).1)]
  unfold adS offS
  by_cases hs : e.2.2.2.1 = 1
  · rw [if_pos hs, if_pos hs, if_pos hs, Nat.add_assoc]
  · rw [if_neg hs, if_neg hs, if_neg hs]
theorem wrd_nr (h : PRG X ns Y K V so va E sP sI) {d k : Nat} (hd : d < 10) (hk : isDg_k X E d k) : sI.2.1 (fnI (cI E) (nI k)) 3 = oI (nxE X E d k) := by
  obtain ⟨hX, hW, -, hPr, hL, hc, -⟩ := h
  have hL5 := hL.2.2.1
  have hLc := hL.1
  rw [fnI_nI (isDg_lt hk) (by omega)]
  rcases hk with ⟨rfl, h10⟩ | ⟨E1, e, E2, h1, h2, h3, rfl⟩
  · exact (hPr.1 k h10).2.2.2
  · rw [← h3]
    exact ((hPr.2 E1 e E2 h1).2.2 (by unfold isNr at h2; exact of_decide_eq_true h2)).2.2.2
theorem ηR_2 (X : List Int32) (Λ : List Lb) (base addr : Int32) (st : Nat) (a : AT) : ηR X Λ base addr st 2 a = if 0 ≤ regR a.nm then (0, true) else (valO base Λ (fnd X a.nm Λ 0), (fnd X a.nm Λ 0).isNone) := by
  unfold ηR
  rw [if_neg (show ¬ (2 : Int32) = 3 by decide), if_neg (show ¬ (2 : Int32) = 7 by decide), if_pos (show (2 : Int32) = 2 from rfl)]
theorem ηR_7 (X : List Int32) (Λ : List Lb) (base addr : Int32) (st : Nat) (a : AT) : ηR X Λ base addr st 7 a = (addr, false) := by
  unfold ηR
  rw [if_neg (show ¬ (7 : Int32) = 3 by decide), if_pos (show (7 : Int32) = 7 from rfl)]
theorem ηR_n (X : List Int32) (Λ : List Lb) (base addr : Int32) (st : Nat) {k : Int32} (hk : k = 8 ∨ k = 9) (a : AT) : ηR X Λ base addr st k a = (valO base Λ (nrS X st (tw X a.p - 48) (decide (tw X (a.p + 1) = 102)) none Λ 0), (nrS X st (tw X a.p - 48) (decide (tw X (a.p + 1) = 102)) none Λ 0).isNone) := by
  unfold ηR
  rw [if_neg (show ¬ k = 3 by rcases hk with z | z <;> rw [z] <;> decide), if_neg (show ¬ k = 7 by rcases hk with z | z <;> rw [z] <;> decide), if_neg (show ¬ k = 2 by rcases hk with z | z <;> rw [z] <;> decide)]
theorem εC_2 (so va : List Int32) (adr nxw : Int32 → Int32) (hd v : Int32) : εC so va adr nxw hd 2 v = if getR so v = 1 then (adr (getR va v), false) else (getR va v, decide (getR so v ≠ 2)) := by
  unfold εC
  rw [if_neg (show ¬ (2 : Int32) = 3 by decide), if_pos (show (2 : Int32) = 2 from rfl)]
theorem εC_7 (so va : List Int32) (adr nxw : Int32 → Int32) (hd v : Int32) : εC so va adr nxw hd 7 v = (adr hd, false) := by
  unfold εC
  rw [if_neg (show ¬ (7 : Int32) = 3 by decide), if_neg (show ¬ (7 : Int32) = 2 by decide), if_pos (show (7 : Int32) = 7 from rfl)]
theorem εC_8 (so va : List Int32) (adr nxw : Int32 → Int32) (hd v : Int32) : εC so va adr nxw hd 8 v = (adr v, decide (v < 10)) := by
  unfold εC
  rw [if_neg (show ¬ (8 : Int32) = 3 by decide), if_neg (show ¬ (8 : Int32) = 2 by decide), if_neg (show ¬ (8 : Int32) = 7 by decide), if_pos (show (8 : Int32) = 8 from rfl)]
theorem εC_9 (so va : List Int32) (adr nxw : Int32 → Int32) (hd v : Int32) : εC so va adr nxw hd 9 v = (adr (nxw v), decide (nxw v < 10)) := by
  unfold εC
  rw [if_neg (show ¬ (9 : Int32) = 3 by decide), if_neg (show ¬ (9 : Int32) = 2 by decide), if_neg (show ¬ (9 : Int32) = 7 by decide), if_neg (show ¬ (9 : Int32) = 8 by decide)]
theorem env_ag (h : PRG X ns Y K V so va E sP sI) (hns : ns.length ≤ 140000) {E1 E2 : List Ev} {e : Ev} (hE : E = E1 ++ e :: E2) (h5 : e.1 = 5) (hne : e.2.2.2.2.2 ≠ []) {R : List XSt} (hR : ∀ s ∈ R, SN X s) : AgS ns (nrE X E1) (ηA so va (adrC sP sI (cI E)) (fun z => sI.2.1 (fnI (cI E) z) 3) (nI (cI E1))) (ηE X E (lay (0, 0) E1) e) R := by
  intro s hs v hst hop
  have h' := h
  obtain ⟨hX, hW, hNm, hPr, hL, hc, hPl⟩ := h
  obtain ⟨-, s3, s2, s89⟩ := hst
  have hevs := hW.ev hE
  have hL5 := hL.2.2.1
  have hLc := hL.1
  unfold isOp at hop
  have hop' := of_decide_eq_true hop
  show (εC so va _ _ _ s.1 v).2 = (ηR X (lbS (0, 0) E) (nI (bsE E)) (aE E (lay (0, 0) E1) e) e.2.1 s.1 s.2).2 ∧ ((εC so va _ _ _ s.1 v).2 = false → (εC so va _ _ _ s.1 v).1 = (ηR X (lbS (0, 0) E) (nI (bsE E)) (aE E (lay (0, 0) E1) e) e.2.1 s.1 s.2).1)
  rcases hop' with k | k | k | k | k
  · have e1 : εC so va (adrC sP sI (cI E)) (fun z => sI.2.1 (fnI (cI E) z) 3) (nI (cI E1)) s.1 v = (v, false) := by unfold εC; rw [if_pos k]
    have e2 : ηR X (lbS (0, 0) E) (nI (bsE E)) (aE E (lay (0, 0) E1) e) e.2.1 s.1 s.2 = (s.2.v, false) := by unfold ηR; rw [if_pos k]
    rw [e1, e2, s3 k]
    exact ⟨rfl, fun _ => rfl⟩
  · obtain ⟨i, hi, hn, rfl⟩ := s2 k
    rw [k, εC_2, ηR_2, getR_nI _ (by omega), getR_nI _ (by omega)]
    rw [← hn]
    rcases hNm i hi with ⟨F1, f, F2, f1, f2, f3, f4, f5⟩ | ⟨f1, f2⟩
    · have hnr : ¬ 0 ≤ regR (ns.getD i []) := by
        intro hr
        have hw := (hW F1 f F2 f1).2.2.2.2.2.2.1 f2
        unfold tkA at hw
        rw [Bool.or_eq_false_iff, f3] at hw
        exact absurd hr (of_decide_eq_false hw.1)
      rw [if_neg hnr]
      rcases fnd_ev X (ns.getD i []) E (0, 0) 0 with ⟨-, g⟩ | ⟨G1, g, G2, g1, g2, g3, g4, g5⟩
      · exact absurd f3 (g f (by rw [f1]; simp) f2)
      · obtain ⟨rfl, rfl⟩ := lab_uniq hW f1 g1 f2 g2 (f3.trans g3.symm)
        rw [g4, Nat.zero_add]
        by_cases k2 : f.1 = 2
        · rw [(f4 k2).1, (f4 k2).2, if_neg (by decide)]
          refine ⟨rfl, fun _ => ?_⟩
          show f.2.2.2.2.1 = valL _ ((lbS (0, 0) E).getD (LbE F1).length lb0)
          rw [g5, if_pos k2]
          unfold valL
          rw [if_neg (by simp only []; omega)]
        · rw [(f5 k2).1, (f5 k2).2, if_pos rfl]
          refine ⟨rfl, fun _ => ?_⟩
          exact adr_lab h' f1 (by omega) k2
    · rw [f2, if_neg (by decide)]
      refine ⟨?_, fun z => by cases z⟩
      by_cases hr : 0 ≤ regR (ns.getD i [])
      · rw [if_pos hr]; rfl
      · rw [if_neg hr]
        rcases fnd_ev X (ns.getD i []) E (0, 0) 0 with ⟨g0, -⟩ | ⟨G1, g, G2, g1, g2, g3, g4, g5⟩
        · rw [g0]; rfl
        · exact absurd g3 (f1 g (by rw [g1]; simp) g2)
  · rw [k, εC_7, ηR_7]
    refine ⟨rfl, fun _ => ?_⟩
    obtain ⟨it, r, hit⟩ : ∃ it r, e.2.2.2.2.2 = it :: r := by
      cases hh : e.2.2.2.2.2 with
      | nil => exact absurd hh hne
      | cons it r => exact ⟨it, r, rfl⟩
    have := adr_it h' hE h5 (j := 0) (it := it) (by rw [hit]; rfl)
    rw [Nat.add_zero, List.take_zero] at this
    exact this
  · obtain ⟨d, d1, d2, d3, d4⟩ := hR s hs (Or.inl k)
    obtain ⟨d', e1, e2, rfl⟩ := s89 (Or.inl k)
    have hdd : d' = d := by rw [d3, nI_eq (by omega) (by omega)] at e2; exact e2.symm
    rw [hdd]
    have hnf : ¬ tw X (s.2.p + 1) = 102 := fun z => by rw [k] at d4; exact absurd (d4.mpr z) (by decide)
    have htw : tw X s.2.p - 48 = nI d := by rw [d2, show (48 : Int32) = nI 48 from rfl, pk_sub (by omega)]; congr 1
    rw [ηR_n _ _ _ _ _ (Or.inl k), k, εC_8, decide_eq_false hnf, htw]
    have hrest : nrS X e.2.1 (nI d) false none (lbS (0, 0) E) 0 = nrS X e.2.1 (nI d) false none (lbS (0, 0) E1) 0 := by
      have hk2 : nrS X e.2.1 (nI d) false (nrS X e.2.1 (nI d) false none (lbS (0, 0) E1) 0) (lbS (lay (0, 0) E1) (e :: E2)) (0 + (lbS (0, 0) E1).length) = nrS X e.2.1 (nI d) false none (lbS (0, 0) E1) 0 := by
        rw [nrS_cons d1 false (by omega) (fun z => by unfold isNr at z; have := of_decide_eq_true z; omega), if_neg (fun z => by have := z.1; unfold isNr at this; have := of_decide_eq_true this; omega)]
        exact nr_keep d1 false E2 _ _ _ (fun g hg => ⟨by rw [decide_eq_true (hevs.2 g hg).1]; decide, (hevs.2 g hg).2⟩)
      conv => lhs; rw [hE]
      rw [lbS_app, nrS_app]
      exact hk2
    rw [hrest]
    rcases nr_back d1 (0, 0) _ E1 rfl hevs.1 with ⟨b1, b2⟩ | ⟨F1, f, F2, b1, b2, b3, b4⟩
    · rw [b1, b2]
      refine ⟨?_, fun z => ?_⟩
      · exact decide_eq_true ((nI_ltI (a := d) (b := 10) (by omega) (by omega)).mpr d1)
      · exact absurd ((nI_ltI (a := d) (b := 10) (by omega) (by omega)).mpr d1) (of_decide_eq_false z)
    · rw [b3, b4]
      have hge := cI_ge F1
      have hs1 := cI_split b1
      have hs2 := cI_split hE
      refine ⟨?_, fun _ => ?_⟩
      · exact decide_eq_false (fun z => by have := (nI_ltI (a := cI F1) (b := 10) (by omega) (by omega)).mp z; omega)
      · have hf : E = F1 ++ f :: (F2 ++ e :: E2) := by rw [hE, b1]; simp
        have h34 : f.1 = 3 ∨ f.1 = 4 := by unfold isNr at b2; exact of_decide_eq_true b2
        exact adr_lab h' hf (by omega) (by omega)
  · obtain ⟨d, d1, d2, d3, d4⟩ := hR s hs (Or.inr k)
    obtain ⟨d', e1, e2, rfl⟩ := s89 (Or.inr k)
    have hdd : d' = d := by rw [d3, nI_eq (by omega) (by omega)] at e2; exact e2.symm
    rw [hdd]
    have hf : tw X (s.2.p + 1) = 102 := d4.mp k
    have htw : tw X s.2.p - 48 = nI d := by rw [d2, show (48 : Int32) = nI 48 from rfl, pk_sub (by omega)]; congr 1
    rw [ηR_n _ _ _ _ _ (Or.inr k), k, εC_9, decide_eq_true hf, htw]
    have hk0 := nr_isDg X _ E1 rfl d d1
    have hk0E : isDg_k X E d (nrE X E1 d) := by
      rcases hk0 with z | ⟨F1, f, F2, z1, z2⟩
      · exact Or.inl z
      · exact Or.inr ⟨F1, f, F2 ++ e :: E2, by rw [hE, z1]; simp, z2⟩
    simp only []
    rw [wrd_nr h' d1 hk0E]
    have hnx : nxE X E d (nrE X E1 d) = nxA X d (nrE X E1 d) (cI E1 + nit e) E2 := by
      unfold nxE
      rw [hE, nxA_app X d _ E1 (e :: E2) 10 (nx_last X _ E1 rfl d), nxA, if_neg (fun z => by have := z.1; unfold isNr at this; have := of_decide_eq_true this; omega)]
      rfl
    have hnr : nrS X e.2.1 (nI d) true none (lbS (0, 0) E) 0 = nrS X e.2.1 (nI d) true none (lbS (stepE (lay (0, 0) E1) e) E2) ((LbE E1).length + (LbE [e]).length) := by
      have hk2 : nrS X e.2.1 (nI d) true (nrS X e.2.1 (nI d) true none (lbS (0, 0) E1) 0) (lbS (lay (0, 0) E1) (e :: E2)) (0 + (lbS (0, 0) E1).length) = nrS X e.2.1 (nI d) true none (lbS (stepE (lay (0, 0) E1) e) E2) ((LbE E1).length + (LbE [e]).length) := by
        rw [nr_keep d1 true E1 _ _ _ (fun g hg => ⟨by rw [decide_eq_false (by have := (hevs.1 g hg).1; omega)]; decide, (hevs.1 g hg).2⟩), nrS_cons d1 true (by omega) (fun z => by unfold isNr at z; have := of_decide_eq_true z; omega), if_neg (fun z => by have := z.1; unfold isNr at this; have := of_decide_eq_true this; omega), lbS_len, Nat.zero_add]
      conv => lhs; rw [hE]
      rw [lbS_app, nrS_app]
      exact hk2
    have hlt := isDg_lt hk0
    rw [hnr, hnx]
    rcases nr_fwd (k := nrE X E1 d) d1 E2 (stepE (lay (0, 0) E1) e) ((LbE E1).length + (LbE [e]).length) (cI E1 + nit e) hevs.2 (by omega) with ⟨b1, b2⟩ | ⟨F1, f, F2, b1, b2, b3, b4⟩
    · rw [b1, b2]
      exact ⟨rfl, fun z => by cases z⟩
    · rw [b3, b4]
      have hf2 : E = (E1 ++ e :: F1) ++ f :: F2 := by rw [hE, b1]; simp
      have hci : cI (E1 ++ e :: F1) = cI E1 + nit e + (F1.map nit).sum := by
        rw [cI_app, List.map_cons, List.sum_cons]; omega
      have hli : (LbE (E1 ++ e :: F1)).length = (LbE E1).length + (LbE [e]).length + (LbE F1).length := by
        rw [show E1 ++ e :: F1 = (E1 ++ [e]) ++ F1 by simp, LbE_app, LbE_app, List.length_append, List.length_append]
      rw [← hci, ← hli]
      have hge := cI_ge (E1 ++ e :: F1)
      have hs1 := cI_split hf2
      refine ⟨?_, fun _ => ?_⟩
      · exact decide_eq_false (fun z => by have := (nI_ltI (a := cI (E1 ++ e :: F1)) (b := 10) (by omega) (by omega)).mp z; omega)
      · have h34 : f.1 = 3 ∨ f.1 = 4 := by unfold isNr at b2; exact of_decide_eq_true b2
        exact adr_lab h' hf2 (by omega) (by omega)
end
