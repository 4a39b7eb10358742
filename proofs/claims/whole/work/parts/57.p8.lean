theorem cut_getD (X : List Int32) {p e i : Nat} (h : i < e - p) : (cut X p e).getD i 0 = X.getD (p + i) 0 := by
  unfold cut
  rw [List.getD_eq_getElem?_getD, List.getD_eq_getElem?_getD, List.getElem?_take_of_lt h, List.getElem?_drop]
theorem cut_mem {X : List Int32} {p e : Nat} {c : Int32} (he : e ≤ X.length) (h : c ∈ cut X p e) : ∃ k, p ≤ k ∧ k < e ∧ c = X.getD k 0 := by
  obtain ⟨i, hi, rfl⟩ := List.getElem_of_mem h
  rw [cut_len X he] at hi
  refine ⟨p + i, by omega, by omega, ?_⟩
  rw [← cut_getD X hi, List.getD_eq_getElem?_getD, List.getElem?_eq_getElem]
  rfl
theorem cut_pl (X : List Int32) {p e : Nat} (hp : p ≤ X.length) (he : e ≤ pend (tw X) X.length p) : ∀ c ∈ cut X p e, isPl c = true := by
  intro c hc
  have h1 := pend_le (tw X) X.length p hp
  obtain ⟨k, k1, k2, rfl⟩ := cut_mem (by omega) hc
  exact pend_all (tw X) X.length p k k1 (by omega)
theorem digTk_e (w : Nat → Int32) {q E : Nat} (h : q < E) {t : (Int32 × Int32 × Int32) × Nat} (ht : numC w q (digTk w q E) = some t) : t.2 = E := by
  unfold digTk at ht
  simp only at ht
  generalize (if q + 1 < E then w (q + 1) else 0) = s at ht
  by_cases hc : E = q + 2 ∧ (s = 102 ∨ s = 98)
  · rw [if_pos hc] at ht
    unfold numC at ht
    rw [if_pos rfl] at ht
    cases ht; rfl
  · rw [if_neg hc] at ht
    generalize (if w q = 48 ∧ s = 120 then numeralS w (q + 2) E 16 else if w q = 48 ∧ s = 98 then numeralS w (q + 2) E 2 else numeralS w q E 10) = r at ht
    cases r with
    | none => simp [numC, digE, bad, Tk.k] at ht
    | some v =>
      unfold numC at ht
      have hk : ¬ (digE q E (some v)).k = 3 := by show ¬ (2 : Int32) = 3; decide
      rw [if_neg hk, if_pos (show (digE q E (some v)).k = 2 from rfl)] at ht
      cases ht; rfl
theorem strS_e (w : Nat → Int32) (n : Nat) : ∀ (m k : Nat), n - k ≤ m → ∀ s e, strS w n k = some (s, e) → k ≤ e ∧ e < n ∧ s.length ≤ e - k := by
  intro m
  induction m with
  | zero =>
    intro k hm s e h
    rw [strS] at h
    split at h
    · rename_i h1
      cases h
      refine ⟨Nat.le_refl _, ?_, by simp⟩
      by_cases hk : k < n
      · exact hk
      · rw [ch_end (by omega)] at h1
        exact absurd h1 (by decide)
    · split at h
      · cases h
      · rw [dif_neg (by omega)] at h; cases h
  | succ m ih =>
    intro k hm s e h
    rw [strS] at h
    have hle := shownS_le w n k 34
    split at h
    · rename_i h1
      cases h
      refine ⟨Nat.le_refl _, ?_, by simp⟩
      by_cases hk : k < n
      · exact hk
      · rw [ch_end (by omega)] at h1
        exact absurd h1 (by decide)
    · split at h
      · cases h
      · by_cases hk : k < n
        · rw [dif_pos hk] at h
          cases hs : strS w n (shownS w n k 34).2 with
          | none => rw [hs] at h; cases h
          | some z =>
            rw [hs] at h
            obtain ⟨s', e'⟩ := z
            have h2 := ih _ (by omega) s' e' hs
            cases h
            have := h2
            simp only [List.length_cons]
            omega
        · rw [dif_neg hk] at h; cases h
theorem tokC_e {X : List Int32} {q : Nat} (hq : q < X.length) {a : AT} (h : tokC X q = some a) : q < a.e ∧ a.e ≤ X.length ∧ a.p = q ∧ a.k ≠ 1 := by
  unfold tokC at h
  simp only at h
  have hc : ch (tw X) X.length q = X.getD q 0 := ch_in hq
  split at h
  · rename_i hd
    have hp := pend_pl (w := tw X) (n := X.length) (q := q) (by rw [hc]; exact isDg_pl hd)
    cases hn : numC (tw X) q (digTk (tw X) q (pend (tw X) X.length q)) with
    | none => rw [hn] at h; cases h
    | some t =>
      have := digTk_e (tw X) hp.1 hn
      rw [hn] at h
      cases h
      refine ⟨by show q < t.2; omega, by show t.2 ≤ _; omega, rfl, ?_⟩
      unfold numC at hn
      split at hn
      · cases hn; show (5 : Int32) ≠ 1; decide
      · split at hn
        · cases hn
          show (if _ then (4 : Int32) else 3) ≠ 1
          split <;> decide
        · cases hn
  · split at h
    · rename_i hd
      have hp := pend_pl (w := tw X) (n := X.length) (q := q) (by rw [hc]; exact hd)
      split at h
      · cases h
      · cases h
        exact ⟨hp.1, hp.2, rfl, by show (2 : Int32) ≠ 1; decide⟩
    · split at h
      · have hle := shownS_le (tw X) X.length (q + 1) 39
        unfold chrTk chrC at h
        simp only at h
        by_cases hg : ¬ (shownS (tw X) X.length (q + 1) 39).1 < 0 ∧ ch (tw X) X.length (shownS (tw X) X.length (q + 1) 39).2 = 39 ∧ isPl (ch (tw X) X.length ((shownS (tw X) X.length (q + 1) 39).2 + 1)) = false
        · rw [if_pos hg] at h
          have hlt : (shownS (tw X) X.length (q + 1) 39).2 < X.length := by
            by_cases hk : (shownS (tw X) X.length (q + 1) 39).2 < X.length
            · exact hk
            · have := hg.2.1
              rw [ch_end (by omega)] at this
              exact absurd this (by decide)
          rw [if_pos rfl] at h
          cases h
          exact ⟨by show q < (shownS (tw X) X.length (q + 1) 39).2 + 1; omega, by show (shownS (tw X) X.length (q + 1) 39).2 + 1 ≤ _; omega, rfl, by show (3 : Int32) ≠ 1; decide⟩
        · rw [if_neg hg] at h
          simp [bad, Tk.k] at h
      · split at h
        · cases hs : strS (tw X) X.length (q + 1) with
          | none => rw [hs] at h; cases h
          | some z =>
            obtain ⟨s, e⟩ := z
            have := strS_e (tw X) X.length _ (q + 1) (Nat.le_refl _) s e hs
            rw [hs] at h
            cases h
            exact ⟨by show q < e + 1; omega, by show e + 1 ≤ _; omega, rfl, by show (6 : Int32) ≠ 1; decide⟩
        · unfold sgnC at h
          simp only at h
          split at h
          · cases h; exact ⟨by show q < q + 1; omega, by show q + 1 ≤ _; omega, rfl, by show (0 : Int32) ≠ 1; decide⟩
          · split at h
            · rename_i h60
              split at h
              · rename_i hch
                cases h
                refine ⟨by show q < q + 2; omega, ?_, rfl, ?_⟩
                · show q + 2 ≤ X.length
                  by_cases hk : q + 1 < X.length
                  · omega
                  · rw [ch_end (by omega)] at hch
                    rcases h60 with z | z <;> rw [z] at hch <;> exact absurd hch (by decide)
                · show tw X q ≠ 1
                  rcases h60 with z | z <;> rw [z] <;> decide
              · cases h
            · split at h
              · rename_i hsg
                cases h
                refine ⟨by show q < q + 1; omega, by show q + 1 ≤ _; omega, rfl, ?_⟩
                show tw X q ≠ 1
                intro z
                rw [z] at hsg
                exact absurd hsg (by decide)
              · cases h
def endA (p : Nat) : AT := ⟨0, [], 0, [], p, p⟩
def badA (p : Nat) : AT := ⟨1, [], 0, [], p, p⟩
/-- all tokens from p on -/
def lexS (X : List Int32) (p : Nat) : List AT :=
  if hp : p < X.length then
    if X.getD p 0 = 32 ∨ X.getD p 0 = 9 then lexS X (p + 1)
    else if X.getD p 0 = 35 then lexS X (max (lend (tw X) X.length p) (p + 1))
    else match tokC X p with
      | none => [badA p, endA p]
      | some a => if h : p < a.e then a :: lexS X a.e else []
  else [endA p]
termination_by X.length - p
/-- a token as the class keeps it -/
def TR (ns : List (List Int32)) (Y : List Int32) (a : AT) (t : Int32 × Int32 × Int32) : Prop := (t.1 = a.k) ∧ (a.k = 2 → ∃ i, i < ns.length ∧ ns.getD i [] = a.nm ∧ t.2.1 = nI i) ∧ (a.k = 3 ∨ a.k = 4 ∨ a.k = 5 → t.2.1 = a.v) ∧ (a.k = 6 → ∃ Y1 Y2, Y = Y1 ++ a.s ++ [0] ++ Y2 ∧ t.2.1 = nI Y1.length ∧ t.2.2 = nI a.s.length)
theorem TR.k {ns : List (List Int32)} {Y : List Int32} {a : AT} {t : Int32 × Int32 × Int32} (h : TR ns Y a t) : t.1 = a.k := h.1
theorem TR.nm {ns : List (List Int32)} {Y : List Int32} {a : AT} {t : Int32 × Int32 × Int32} (h : TR ns Y a t) : a.k = 2 → ∃ i, i < ns.length ∧ ns.getD i [] = a.nm ∧ t.2.1 = nI i := h.2.1
theorem TR.v {ns : List (List Int32)} {Y : List Int32} {a : AT} {t : Int32 × Int32 × Int32} (h : TR ns Y a t) : a.k = 3 ∨ a.k = 4 ∨ a.k = 5 → t.2.1 = a.v := h.2.2.1
theorem TR.s {ns : List (List Int32)} {Y : List Int32} {a : AT} {t : Int32 × Int32 × Int32} (h : TR ns Y a t) : a.k = 6 → ∃ Y1 Y2, Y = Y1 ++ a.s ++ [0] ++ Y2 ∧ t.2.1 = nI Y1.length ∧ t.2.2 = nI a.s.length := h.2.2.2
theorem TR.more {ns : List (List Int32)} {Y : List Int32} {a : AT} {t : Int32 × Int32 × Int32} (h : TR ns Y a t) (ms : List (List Int32)) (Z : List Int32) : TR (ns ++ ms) (Y ++ Z) a t := by
  refine ⟨h.k, fun e => ?_, h.v, fun e => ?_⟩
  · obtain ⟨i, h1, h2, h3⟩ := h.nm e
    refine ⟨i, by simp; omega, ?_, h3⟩
    rw [← h2]
    simp [List.getD_eq_getElem?_getD, List.getElem?_append_left h1]
  · obtain ⟨Y1, Y2, h1, h2, h3⟩ := h.s e
    exact ⟨Y1, Y2 ++ Z, by rw [h1]; simp, h2, h3⟩

/-- what a token, or none, makes of the lexer's states -/
def TokPost (sL sY sN sT : CS) (Y : List Int32) (ns : List (List Int32)) (so va op re od : List Int32) (L : List (Int32 × Int32 × Int32)) (c : Nat) (tok : Option AT) (r : Option ((Int32 × (CS × CS × CS × CS)) × (Nat × Nat))) : Prop :=
  match tok with
  | some a => ∃ sY' sN' sT' ms so' va' Z t c' dc ds, r = some ((1, (cF sL 0 (nI a.e), sY', sN', sT')), (dc, ds)) ∧ RowL sY' (Y ++ Z) ∧ Z.length ≤ a.e - a.p ∧ NamL sN' (ns ++ ms) [] (so ++ so') (va ++ va') op re od ∧ (ms.length ≤ 1 ∧ ∀ nm ∈ ms, ∀ x ∈ nm, isPl x = true) ∧ ms.flatten.length ≤ a.e - a.p ∧ (∀ x ∈ so', x = 0) ∧ (∀ x ∈ va', x = 0) ∧ TokL sT' (L ++ [t]) c' ∧ TR (ns ++ ms) (Y ++ Z) a t ∧ sT'.1 2 = sT.1 2 ∧ (∀ j, 1 ≤ j → j < 100 → sN'.1 j = sN.1 j) ∧ ds + 6 * c + 2 * capN sN + 2 * sY.2.2 0 ≤ 6 * c' + 2 * capN sN' + 2 * sY'.2.2 0 ∧ 64 * dc + 3 * c + capN sN + sY.2.2 0 ≤ 3 * c' + capN sN' + sY'.2.2 0
  | none => ∃ sL' sY' Z dc ds, r = some ((0, (sL', sY', sN, sT)), (dc, ds)) ∧ RowL sY' (Y ++ Z) ∧ Cost (sY.2.2 0) (sY'.2.2 0) dc ds
theorem numPost_tok {sL sY sN sT : CS} {Y : List Int32} {ns : List (List Int32)} {so va op re od : List Int32} {L : List (Int32 × Int32 × Int32)} {c q : Nat} {tok : Option ((Int32 × Int32 × Int32) × Nat)} {r : Option ((Int32 × (CS × CS)) × (Nat × Nat))} {f : (Int32 × Int32 × Int32) → Int32} (hY : RowL sY Y) (hN : NamL sN ns [] so va op re od) (h : NumPost sL sT L c tok r) (hf : ∀ t, tok = some t → t.1.1 ≠ 2 ∧ t.1.1 ≠ 6 ∧ (t.1.1 = 3 ∨ t.1.1 = 4 ∨ t.1.1 = 5 → t.1.2.1 = f t.1)) :
    TokPost sL sY sN sT Y ns so va op re od L c (tok.map (fun t => ⟨t.1.1, [], f t.1, [], q, t.2⟩)) (ct r (fun r1 u2 => gd (isB r1) (some ((r1, (u2.1, sY, sN, u2.2)), (0, 0))))) := by
  cases tok with
  | none =>
    obtain ⟨sL', e⟩ := h
    exact ⟨sL', sY, [], 0, 0, ct0 e rfl, by simpa using hY, by unfold Cost; omega⟩
  | some t =>
    obtain ⟨sT', c', dc, ds, e, h4, h5, h6, h7⟩ := h
    obtain ⟨n2, n6, nv⟩ := hf t rfl
    refine ⟨sY, sN, sT', [], [], [], [], t.1, c', dc, ds, ct0 e rfl, by simpa using hY, by simp, by simpa using hN, ⟨by simp, fun nm hm => by cases hm⟩, by simp, by simp, by simp, h4, ⟨rfl, fun z => absurd z n2, nv, fun z => absurd z n6⟩, h5, fun j _ _ => rfl, by omega, by omega⟩
theorem C_Lex_readToken_eq {sX sY sN sT sL : CS} {X Y : List Int32} (hX : RowL sX X) (hV : ∀ c ∈ X, okT c) (hY : RowL sY Y) {ns : List (List Int32)} {so va op re od : List Int32} {L : List (Int32 × Int32 × Int32)} {c : Nat} (hT : TokL sT L c) (hl : 2 * L.length + 64 ≤ 140000) {N q : Nat} (hq : q < X.length) (hat : sL.1 0 = nI q) (hN : X.length < N) (hN2 : ns.length < N) (hNm : NamL sN ns [] so va op re od) (hf : 2 * (ns.flatten.length + 31) + 64 ≤ 140000 ∧ 2 * ns.length + 66 ≤ 140000) (hfY : 2 * (Y.length + (X.length - q) + 1) + 64 ≤ 140000) :
    (X.getD q 0 = 32 ∨ X.getD q 0 = 9 → C_Lex_readToken N sL sX sY sN sT = some ((1, (cF sL 0 (nI (q + 1)), sY, sN, sT)), (0, 0))) ∧
    (X.getD q 0 = 35 → C_Lex_readToken N sL sX sY sN sT = some ((1, (cF sL 0 (nI (lend (tw X) X.length q)), sY, sN, sT)), (0, 0))) ∧
    (¬ (X.getD q 0 = 32 ∨ X.getD q 0 = 9) → ¬ X.getD q 0 = 35 → TokPost sL sY sN sT Y ns so va op re od L c (tokC X q) (C_Lex_readToken N sL sX sY sN sT)) := by
  have hx1 := hX.cap; have hx2 := hX.big
  have hc : ch (tw X) X.length q = X.getD q 0 := ch_in hq
  have e0 : C_Row_get (sL.1 0) sX = some (X.getD q 0) := by rw [hat, C_get hX (by omega)]
  refine ⟨fun h => ?_, fun h => ?_, fun hb h35 => ?_⟩
  · unfold C_Lex_readToken C_Lex_readToken_24
    rw [e0]
    simp only [cr, Option.bind_some, bnd, hat, nI_1]
    rcases h with h | h
    · rw [if_pos h]
    · rw [if_neg (by rw [h]; decide), if_pos h]
  · unfold C_Lex_readToken
    rw [e0]
    simp only [cr, Option.bind_some]
    rw [if_neg (by rw [h]; decide), if_neg (by rw [h]; decide), if_pos h, C_Lex_skipRemark_eq hX (by omega) hat hN]
    rfl
  · simp only [not_or] at hb
    unfold C_Lex_readToken
    rw [e0]
    simp only [cr, Option.bind_some]
    rw [if_neg hb.1, if_neg hb.2, if_neg h35, C_Lex_isDigit_eq, C_Lex_isOfName_eq]
    simp only [Option.bind_some, b2_0]
    unfold tokC
    simp only
    rw [show tw X q = X.getD q 0 from rfl]
    by_cases hd : isDg (X.getD q 0) = true
    · rw [if_pos hd, if_neg (by rw [hd]; decide)]
      refine numPost_tok (f := fun t => t.2.1) hY hNm (C_Lex_readNumber_eq hX hT hl hq hat hN hd) (fun t ht => ?_)
      unfold numC at ht
      split at ht
      · cases ht; exact ⟨show (5 : Int32) ≠ 2 by decide, show (5 : Int32) ≠ 6 by decide, fun _ => rfl⟩
      · split at ht
        · cases ht
          refine ⟨?_, ?_, fun _ => rfl⟩ <;> (show (if _ then (4 : Int32) else 3) ≠ _; split <;> decide)
        · cases ht
    · rw [if_neg hd]
      simp only [Bool.not_eq_true] at hd
      rw [if_pos hd]
      by_cases hp : isPl (X.getD q 0) = true
      · rw [if_pos hp, if_neg (show ¬ isPl (X.getD q 0) = false by rw [hp]; decide)]
        have hpp := pend_pl (w := tw X) (n := X.length) (q := q) (by rw [hc]; exact hp)
        rcases C_Lex_readName_eq (sY := sY) hX hT hl hq hat hN hN2 hNm hf with ⟨h1, sL', e⟩ | ⟨h1, hr⟩
        · rw [if_pos h1]
          exact ⟨sL', sY, [], 0, 0, ct0 e rfl, by simpa using hY, by unfold Cost; omega⟩
        · rw [if_neg h1]
          obtain ⟨i, ns', so', va', sN', sT', c', dc, ds, e, hi, n1, t1, t2, f1, k1, k2⟩ := hr
          have hcl := cut_len X (p := q) hpp.2
          rcases hi with ⟨i1, i2, rfl, rfl, rfl⟩ | ⟨i1, i2, rfl, rfl, rfl⟩
          · refine ⟨sY, sN', sT', [], [], [], [], _, c', dc, ds, ct0 e rfl, by simpa using hY, by simp, by simpa using n1, ⟨by simp, fun nm hm => by cases hm⟩, by simp, by simp, by simp, t1, ⟨rfl, fun _ => ⟨i, by simpa using i1, by simpa using i2, rfl⟩, fun z => ?_, fun z => absurd z (show (2 : Int32) ≠ 6 by decide)⟩, t2, f1, by omega, by omega⟩
            exact absurd z (show ¬ ((2 : Int32) = 3 ∨ (2 : Int32) = 4 ∨ (2 : Int32) = 5) by decide)
          · refine ⟨sY, sN', sT', [cut X q (pend (tw X) X.length q)], [0], [0], [], _, c', dc, ds, ct0 e rfl, by simpa using hY, by simp, n1, ⟨by simp, fun nm hm => by rw [List.mem_singleton.mp hm]; exact cut_pl X (by omega) (Nat.le_refl _)⟩, ?_, by simp, by simp, t1, ⟨rfl, fun _ => ⟨i, by simp; omega, ?_, rfl⟩, fun z => ?_, fun z => absurd z (show (2 : Int32) ≠ 6 by decide)⟩, t2, f1, by omega, by omega⟩
            · simp only [List.flatten_singleton, AT.e, AT.p]; omega
            · rw [getD_snoc, if_pos i2]
            · exact absurd z (show ¬ ((2 : Int32) = 3 ∨ (2 : Int32) = 4 ∨ (2 : Int32) = 5) by decide)
      · rw [if_neg hp]
        simp only [Bool.not_eq_true] at hp
        rw [if_pos hp]
        by_cases h39 : X.getD q 0 = 39
        · rw [if_pos h39, if_pos h39]
          refine numPost_tok (f := fun t => t.2.1) hY hNm (C_Lex_readQuoted_eq hX hV hT hl hq hat) (fun t ht => ?_)
          unfold chrC at ht
          split at ht
          · cases ht; exact ⟨show (3 : Int32) ≠ 2 by decide, show (3 : Int32) ≠ 6 by decide, fun _ => rfl⟩
          · cases ht
        · rw [if_neg h39, if_neg h39]
          by_cases h34 : X.getD q 0 = 34
          · rw [if_pos h34, if_pos h34]
            have hs := C_Lex_readString_26_eq (sN := sN) (sL := sL) hX hV hT hl N Y.length N (q + 1) X.length sY Y hY (Nat.le_refl _) (by omega) (by omega) (by omega) (by omega) (by omega)
            have e1 : C_Lex_readString N sL sX sY sN sT = C_Lex_readString_26 N N (nI Y.length) (nI X.length) (cF sL 0 (nI (q + 1))) sX sY sN sT := by
              unfold C_Lex_readString
              simp only [bnd]
              rw [hat, nI_1, hY.cnt, hX.cnt]
            rw [e1]
            cases hst : strS (tw X) X.length (q + 1) with
            | none =>
              rw [hst] at hs
              obtain ⟨sL', sY', Y', dc, ds, e, r1, k1⟩ := hs
              exact ⟨sL', sY', Y', dc, ds, ct0 e rfl, r1, k1⟩
            | some z =>
              obtain ⟨s, k⟩ := z
              have hse := strS_e (tw X) X.length _ (q + 1) (Nat.le_refl _) s k hst
              rw [hst] at hs
              obtain ⟨sY', sT', c', dc, ds, e, r1, t1, t2, k1, k2⟩ := hs
              refine ⟨sY', sN, sT', [], [], [], s ++ [0], _, c', dc, ds, ct0 e rfl, by simpa using r1, ?_, by simpa using hNm, ⟨by simp, fun nm hm => by cases hm⟩, by simp, by simp, by simp, t1, ⟨rfl, fun z => absurd z (show (6 : Int32) ≠ 2 by decide), fun z => ?_, fun _ => ⟨Y, [], by simp, rfl, ?_⟩⟩, t2, fun j _ _ => rfl, by omega, by omega⟩
              · show (s ++ [0]).length ≤ k + 1 - q
                simp; omega
              · exact absurd z (show ¬ ((6 : Int32) = 3 ∨ (6 : Int32) = 4 ∨ (6 : Int32) = 5) by decide)
              · show nI ((Y ++ s).length - Y.length) = nI s.length
                congr 1
                simp
          · rw [if_neg h34, if_neg h34]
            have := numPost_tok (f := fun _ => 0) (q := q) hY hNm (C_Lex_readSign_eq (sY := sY) (sN := sN) hX hT hl hq hat) (fun t ht => ?_)
            · exact this
            · unfold sgnC at ht
              simp only at ht
              split at ht
              · cases ht; exact ⟨show (0 : Int32) ≠ 2 by decide, show (0 : Int32) ≠ 6 by decide, fun z => by exact absurd z (show ¬ ((0 : Int32) = 3 ∨ (0 : Int32) = 4 ∨ (0 : Int32) = 5) by decide)⟩
              · split at ht
                · rename_i h60
                  split at ht
                  · cases ht
                    show tw X q ≠ 2 ∧ tw X q ≠ 6 ∧ (tw X q = 3 ∨ tw X q = 4 ∨ tw X q = 5 → _)
                    rcases h60 with z | z <;> rw [z] <;> exact ⟨by decide, by decide, fun z => by rcases z with z | z | z <;> exact absurd z (by decide)⟩
                  · cases ht
                · split at ht
                  · rename_i hsg
                    cases ht
                    show tw X q ≠ 2 ∧ tw X q ≠ 6 ∧ (tw X q = 3 ∨ tw X q = 4 ∨ tw X q = 5 → _)
                    refine ⟨fun z => ?_, fun z => ?_, fun z => ?_⟩
                    · rw [z] at hsg; exact absurd hsg (by decide)
                    · rw [z] at hsg; exact absurd hsg (by decide)
                    · rcases z with z | z | z <;> rw [z] at hsg <;> exact absurd hsg (by decide)
                  · cases ht
