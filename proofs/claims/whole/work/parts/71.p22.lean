/-! ===== the reference's names ===== -/
abbrev Lb : Type := Nat × Nat × Int32
def lb0 : Lb := (0, 0, 0)
def LBs (X : List Int32) (σ : MS) (Λ : List Lb) : Prop := σ.1 5 = nI Λ.length ∧ Λ.length ≤ 2050 ∧ ∀ i, i < Λ.length → (Λ.getD i lb0).1 < X.length ∧ (Λ.getD i lb0).2.1 ≤ 4 ∧ σ.2 5 i = nI ((Λ.getD i lb0).2.1 * 2 ^ 13 + (Λ.getD i lb0).1) ∧ σ.2 6 i = (Λ.getD i lb0).2.2
def nmAt (X : List Int32) (p : Nat) : List Int32 := cut X p (pend (tw X) X.length p)
theorem pend_char (w : Nat → Int32) (n : Nat) : ∀ (m o : Nat), (∀ j, j < m → o + j < n ∧ isPl (w (o + j)) = true) → ¬ (o + m < n ∧ isPl (w (o + m)) = true) → pend w n o = o + m
  | 0, o, _, h2 => by
    rw [pend, dif_neg (show ¬ (o < n ∧ isPl (w o) = true) from h2)]
    rfl
  | m + 1, o, h1, h2 => by
    rw [pend, dif_pos (show o < n ∧ isPl (w o) = true from h1 0 (by omega)), pend_char w n m (o + 1) (fun j hj => by have := h1 (j + 1) (by omega); rw [show o + 1 + j = o + (j + 1) by omega]; exact this) (by rw [show o + 1 + m = o + (m + 1) by omega]; exact h2)]
    omega
theorem ch_pl {X : List Int32} {k : Nat} (h : isPl (ch (tw X) X.length k) = true) : k < X.length ∧ isPl (X.getD k 0) = true ∧ ch (tw X) X.length k = X.getD k 0 := by
  by_cases hk : k < X.length
  · rw [ch_in hk] at h ⊢
    exact ⟨hk, h, rfl⟩
  · rw [ch_end (by omega)] at h
    exact absurd h (by decide)
theorem alike (X : List Int32) {p e o : Nat} (hpe : p ≤ e) (he : e ≤ X.length) (ho : o ≤ X.length) (hpl : ∀ c ∈ cut X p e, isPl c = true) : ((∀ j, j < e - p → ch (tw X) X.length (o + j) = X.getD (p + j) 0) ∧ isPl (ch (tw X) X.length (o + (e - p))) = false) ↔ nmAt X o = cut X p e := by
  have hmem : ∀ j, j < e - p → isPl (X.getD (p + j) 0) = true := by
    intro j hj
    refine hpl _ ?_
    rw [← cut_getD X hj, List.getD_eq_getElem?_getD, List.getElem?_eq_getElem (by rw [cut_len X he]; exact hj)]
    exact List.getElem_mem _
  constructor
  · rintro ⟨h1, h2⟩
    have hpd : pend (tw X) X.length o = o + (e - p) := by
      refine pend_char _ _ _ _ (fun j hj => ?_) (fun z => ?_)
      · have := ch_pl (X := X) (k := o + j) (by rw [h1 j hj]; exact hmem j hj)
        exact ⟨this.1, this.2.1⟩
      · rw [ch_in z.1] at h2
        exact absurd (h2.symm.trans z.2) (by decide)
    have hpl2 := pend_le (tw X) X.length o ho
    unfold nmAt
    rw [hpd] at hpl2 ⊢
    refine list_eq_of_getD (by rw [cut_len X he, cut_len X hpl2]; omega) (fun k hk => ?_)
    rw [cut_len X hpl2] at hk
    rw [cut_getD X hk, cut_getD X (by omega), ← h1 k (by omega)]
    exact (ch_pl (by rw [h1 k (by omega)]; exact hmem k (by omega))).2.2.symm
  · intro h
    have hpl2 := pend_le (tw X) X.length o ho
    have hge := pend_ge (tw X) X.length o
    have hlen := congrArg List.length h
    unfold nmAt at hlen h
    rw [cut_len X he, cut_len X hpl2] at hlen
    constructor
    · intro j hj
      have h3 := congrArg (fun l => l.getD j 0) h
      try simp only [] at h3
      rw [cut_getD X (by omega), cut_getD X hj] at h3
      rw [← h3, ch_in (by omega)]
    · rw [show o + (e - p) = pend (tw X) X.length o by omega]
      by_cases hb : pend (tw X) X.length o < X.length
      · rw [ch_in hb]
        exact pend_stop _ _ _ hb
      · rw [ch_end (by omega)]
        decide
theorem M_isAlike_eq {σ : MS} {X : List Int32} {N : Nat} (T : TX σ (tw X) X.length) (hN : 4200 < N) {p e o : Nat} (hpe : p ≤ e) (he : e ≤ X.length) (ho : o ≤ X.length) (hpl : ∀ c ∈ cut X p e, isPl c = true) : M_isAlike N (nI p) (nI e) (nI o) σ = some (b2 (decide (nmAt X o = cut X p e))) := by
  have hn := T.small
  have hal := alike X hpe he ho hpl
  have key : ∀ (n k : Nat), k ≤ e - p → e - p - k < n → (∀ j, j < k → ch (tw X) X.length (o + j) = X.getD (p + j) 0) → M_isAlike_3 N n (nI p) (nI e) (nI o) (nI (p + k)) σ = some (b2 (decide (nmAt X o = cut X p e))) := by
    intro n
    induction n with
    | zero => intro k h1 h2 _; omega
    | succ n ih =>
      intro k h1 h2 h3
      rw [M_isAlike_3]
      show (if nI e ≤ nI (p + k) then _ else _) = _
      by_cases hk : k = e - p
      · subst hk
        rw [if_pos (by rw [nI_leI (by omega) (by omega)]; omega), nI_add, pk_sub (by omega), show o + e - p = o + (e - p) by omega, M_charAt_eq T (by omega)]
        simp only [cr, Option.bind_some, M_isPlain_eq, b2_0]
        unfold M_isAlike_57
        by_cases hp : isPl (ch (tw X) X.length (o + (e - p))) = false
        · rw [if_pos hp, gd_t (by decide), decide_eq_true (hal.mp ⟨h3, hp⟩)]
          rfl
        · rw [if_neg hp, gd_t (by decide), decide_eq_false (fun z => hp (hal.mpr z).2)]
          rfl
      · rw [if_neg (by rw [nI_leI (by omega) (by omega)]; omega), nI_add, pk_sub (by omega), show o + (p + k) - p = o + k by omega, M_charAt_eq T (by omega)]
        simp only [cr, Option.bind_some]
        rw [gd_t (inB_nI (by omega) (by omega)), nI_clamp (by omega), T.text (p + k) (by omega), nI_1]
        by_cases hc : ch (tw X) X.length (o + k) = X.getD (p + k) 0
        · rw [if_pos hc]
          exact ih (k + 1) (by omega) (by omega) (fun j hj => by
            rcases Nat.lt_succ_iff_lt_or_eq.mp hj with h | h
            · exact h3 j h
            · subst h; exact hc)
        · rw [if_neg hc, decide_eq_false (fun z => hc ((hal.mpr z).1 k (by omega)))]
          rfl
  unfold M_isAlike
  exact key N 0 (by omega) (by omega) (fun j hj => absurd hj (Nat.not_lt_zero _))
def fnd (X : List Int32) (nm : List Int32) : List Lb → Nat → Option Nat
  | [], _ => none
  | l :: r, i => if l.2.1 < 3 ∧ nmAt X l.1 = nm then some i else fnd X nm r (i + 1)
def oI : Option Nat → Int32
  | some k => nI k
  | none => -1
theorem drop_cons {α : Type} (L : List α) {i : Nat} (h : i < L.length) (d : α) : L.drop i = L.getD i d :: L.drop (i + 1) := by
  rw [List.drop_eq_getElem_cons h, List.getD_eq_getElem?_getD, List.getElem?_eq_getElem h]
  rfl
theorem lb_kind {k p : Nat} (hk : k ≤ 4) (hp : p < 8192) : nI (k * 2 ^ 13 + p) >>> ((13 : Int32) &&& 31) = nI k ∧ nI (k * 2 ^ 13 + p) &&& 8191 = nI p := by
  constructor
  · rw [nI_shr (k := 13) (by omega) (by decide)]
    congr 1
    omega
  · rw [nI_and (by omega) 13 (by decide)]
    congr 1
    omega
theorem M_find_eq {σ : MS} {X : List Int32} {N : Nat} (T : TX σ (tw X) X.length) (hN : 4200 < N) {Λ : List Lb} (hL : LBs X σ Λ) {p e : Nat} (hpe : p ≤ e) (he : e ≤ X.length) (hpl : ∀ c ∈ cut X p e, isPl c = true) : M_find N (nI p) (nI e) σ = some (oI (fnd X (cut X p e) Λ 0)) := by
  have hn := T.small
  obtain ⟨l1, l2, l3⟩ := hL
  have key : ∀ (n i : Nat), i ≤ Λ.length → Λ.length - i < n → M_find_2 N n (nI p) (nI e) (nI i) σ = some (oI (fnd X (cut X p e) (Λ.drop i) i)) := by
    intro n
    induction n with
    | zero => intro i h1 h2; omega
    | succ n ih =>
      intro i h1 h2
      rw [M_find_2]
      show (if σ.1 5 ≤ nI i then _ else _) = _
      rw [l1]
      by_cases hi : i = Λ.length
      · subst hi
        rw [if_pos (by rw [nI_leI (by omega) (by omega)]; omega), List.drop_length]
        rfl
      · obtain ⟨g1, g2, g3, g4⟩ := l3 i (by omega)
        obtain ⟨b1, b2'⟩ := lb_kind g2 (show (Λ.getD i lb0).1 < 8192 by omega)
        rw [if_neg (by rw [nI_leI (by omega) (by omega)]; omega), gd_t (inB_nI (by omega) (by omega)), nI_clamp (by omega), g3, b1, b2', drop_cons Λ (by omega) lb0]
        generalize Λ.getD i lb0 = l at g1 g2 g3 g4 ⊢
        simp only [fnd]
        unfold M_find_44
        rw [nI_1, gd_t (inB_nI (by omega) (by omega)), M_isAlike_eq T hN hpe he (by omega) hpl]
        simp only [cr, Option.bind_some, b2_0, decide_eq_false_iff_not]
        have hih := ih (i + 1) (by omega) (by omega)
        by_cases c1 : l.2.1 < 3
        · rw [if_neg (by rw [show (3 : Int32) = nI 3 from rfl, nI_leI (by omega) (by omega)]; omega)]
          by_cases c2 : nmAt X l.1 = cut X p e
          · rw [if_neg (by simp [c2]), if_pos ⟨c1, c2⟩]
            rfl
          · rw [if_pos (by simp [c2]), if_neg (fun z => c2 z.2)]
            exact hih
        · rw [if_pos (by rw [show (3 : Int32) = nI 3 from rfl, nI_leI (by omega) (by omega)]; omega), if_neg (fun z => c1 z.1)]
          exact hih
  unfold M_find
  exact key N 0 (by omega) (by omega)
theorem fnd_lt (X : List Int32) (nm : List Int32) : ∀ (L : List Lb) (i k : Nat), fnd X nm L i = some k → i ≤ k ∧ k < i + L.length
  | [], i, k, h => by cases h
  | l :: r, i, k, h => by
    simp only [fnd] at h
    split at h
    · cases h
      simp
    · have := fnd_lt X nm r (i + 1) k h
      simp only [List.length_cons]
      omega
def valL (base : Int32) (l : Lb) : Int32 := if l.2.1 = 1 ∨ l.2.1 = 4 then base + l.2.2 else l.2.2
def valO (base : Int32) (Λ : List Lb) : Option Nat → Int32
  | some k => valL base (Λ.getD k lb0)
  | none => 0
def baseR (σ : MS) : Int32 := ((σ.1 6 + 1023) / 1024) * 1024
theorem M_valueOf_eq {σ : MS} {X : List Int32} {Λ : List Lb} (hX : X.length ≤ 4096) (hL : LBs X σ Λ) {k : Nat} (hk : k < Λ.length) : M_valueOf (nI k) σ = some (valL (baseR σ) (Λ.getD k lb0)) := by
  obtain ⟨l1, l2, l3⟩ := hL
  obtain ⟨g1, g2, g3, g4⟩ := l3 k hk
  obtain ⟨b1, b2'⟩ := lb_kind g2 (show (Λ.getD k lb0).1 < 8192 by omega)
  unfold M_valueOf M_valueOf_34 M_valueOf_54 M_base valL
  rw [gd_t (inB_nI (by omega) (by omega)), nI_clamp (by omega), g3, b1, g4, gd_t (inB_nI (by omega) (by omega)), gd_t (by decide)]
  simp only [bnd, cr, Option.bind_some, gd_t (inB_nI (show k < 2060 by omega) (show 2060 < 2 ^ 31 by decide))]
  generalize Λ.getD k lb0 = l at g2 ⊢
  rcases (show l.2.1 = 0 ∨ l.2.1 = 1 ∨ l.2.1 = 2 ∨ l.2.1 = 3 ∨ l.2.1 = 4 by omega) with e | e | e | e | e <;> rw [e] <;> rfl
/-- the near label that is meant: its place in the list -/
def nrS (X : List Int32) (start : Nat) (d : Int32) (fw : Bool) : Option Nat → List Lb → Nat → Option Nat
  | acc, [], _ => acc
  | acc, l :: r, i => if 3 ≤ l.2.1 ∧ tw X l.1 - 48 = d ∧ fw = decide (start < l.1) ∧ (fw = false ∨ acc = none) then nrS X start d fw (some i) r (i + 1) else nrS X start d fw acc r (i + 1)
theorem nrS_lt (X : List Int32) (start : Nat) (d : Int32) (fw : Bool) (m : Nat) : ∀ (L : List Lb) (i : Nat) (acc : Option Nat), (∀ k, acc = some k → k < m) → i + L.length ≤ m → ∀ k, nrS X start d fw acc L i = some k → k < m
  | [], i, acc, h1, h2, k, h => h1 k h
  | l :: r, i, acc, h1, h2, k, h => by
    simp only [List.length_cons] at h2
    simp only [nrS] at h
    split at h
    · exact nrS_lt X start d fw m r (i + 1) (some i) (fun k hk => by cases hk; omega) (by omega) k h
    · exact nrS_lt X start d fw m r (i + 1) acc h1 (by omega) k h
theorem oI_neg : ∀ o : Option Nat, (∀ k, o = some k → k < 2 ^ 31) → ((oI o < 0) ↔ o = none) ∧ ((0 ≤ oI o) ↔ o ≠ none)
  | none, _ => ⟨by decide, by decide⟩
  | some k, h => by
    have := nI_pos (h k rfl)
    exact ⟨⟨fun z => absurd z this, fun z => by cases z⟩, ⟨fun _ => by simp, fun _ => Int32.not_lt.mp this⟩⟩
theorem M_near_eq {σ : MS} {X : List Int32} {N : Nat} (T : TX σ (tw X) X.length) (hN : 4200 < N) {Λ : List Lb} (hL : LBs X σ Λ) {cur start : Nat} (hc : σ.1 18 = nI cur) (hcur : cur < 1030) (hst : σ.2 2 cur &&& 8191 = nI start) (hs : start < 8192) (d : Int32) (fw : Bool) {m : Bool} (h24 : σ.1 24 = b2 m) :
    M_near N d (b2 fw) σ = some (valO (baseR σ) Λ (nrS X start d fw none Λ 0), sF σ 24 (b2 (m || (nrS X start d fw none Λ 0).isNone))) := by
  have hn := T.small
  have hL0 := hL
  obtain ⟨l1, l2, l3⟩ := hL
  have fin : ∀ (acc : Option Nat), (∀ k, acc = some k → k < Λ.length) → (if (σ.1 24) = 0 then (if 0 ≤ oI acc then M_near_125 N (oI acc) 0 σ else M_near_120 N (oI acc) σ) else M_near_120 N (oI acc) σ) = some (valO (baseR σ) Λ acc, sF σ 24 (b2 (m || acc.isNone))) := by
    intro acc ha
    have hv : ∀ (k : Nat) (x : Int32), k < Λ.length → M_valueOf (nI k) (sF σ 24 x) = some (valL (baseR σ) (Λ.getD k lb0)) := by
      intro k x hk
      have hL2 : LBs X (sF σ 24 x) Λ := ⟨l1, l2, l3⟩
      rw [M_valueOf_eq hn hL2 hk]
      rfl
    rw [h24]
    unfold M_near_120 M_near_125 M_near_143
    cases acc with
    | none =>
      rw [show oI none = -1 from rfl]
      cases m with
      | true =>
        rw [if_neg (by decide), gd_t (by decide)]
        simp only [bnd]
        rw [if_neg (by decide)]
        rfl
      | false =>
        rw [if_pos (show b2 false = 0 from rfl), if_neg (by decide), gd_t (by decide)]
        simp only [bnd]
        rw [if_neg (by decide)]
        rfl
    | some k =>
      have hk := ha k rfl
      have h0 : 0 ≤ nI k := Int32.not_lt.mp (nI_pos (by omega))
      rw [show oI (some k) = nI k from rfl]
      cases m with
      | true =>
        rw [if_neg (by decide), gd_t (by decide)]
        simp only [bnd]
        rw [if_pos h0, hv k _ hk]
        rfl
      | false =>
        rw [if_pos (show b2 false = 0 from rfl), if_pos h0, gd_t (by decide)]
        simp only [bnd]
        rw [if_pos h0, hv k _ hk]
        rfl
  have key : ∀ (n i : Nat) (acc : Option Nat), i ≤ Λ.length → Λ.length - i < n → (∀ k, acc = some k → k < Λ.length) → M_near_20 N n d (b2 fw) (nI start) (oI acc) (nI i) σ = some (valO (baseR σ) Λ (nrS X start d fw acc (Λ.drop i) i), sF σ 24 (b2 (m || (nrS X start d fw acc (Λ.drop i) i).isNone))) := by
    intro n
    induction n with
    | zero => intro i acc h1 h2; omega
    | succ n ih =>
      intro i acc h1 h2 ha
      rw [M_near_20]
      show (if σ.1 5 ≤ nI i then _ else _) = _
      rw [l1]
      by_cases hi : i = Λ.length
      · subst hi
        rw [if_pos (by rw [nI_leI (by omega) (by omega)]; omega), List.drop_length]
        exact fin acc ha
      · obtain ⟨g1, g2, g3, g4⟩ := l3 i (by omega)
        obtain ⟨b1, b2'⟩ := lb_kind g2 (show (Λ.getD i lb0).1 < 8192 by omega)
        rw [if_neg (by rw [nI_leI (by omega) (by omega)]; omega), gd_t (inB_nI (by omega) (by omega)), nI_clamp (by omega), g3, b1, b2', drop_cons Λ (by omega) lb0]
        simp only [bnd]
        generalize Λ.getD i lb0 = l at g1 g2 g3 g4 ⊢
        rw [gd_t (inB_nI (by omega) (by omega)), gd_t (inB_nI (by omega) (by omega)), nI_clamp (by omega), T.text l.1 g1]
        have same := ih (i + 1) acc (by omega) (by omega) ha
        have take := ih (i + 1) (some i) (by omega) (by omega) (fun k hk => by cases hk; omega)
        simp only [nrS]
        unfold M_near_101 M_near_82 M_near_97 M_near_101
        rw [nI_1]
        by_cases c1 : l.2.1 < 3
        · rw [if_pos (by rw [show (3 : Int32) = nI 3 from rfl, nI_ltI (by omega) (by omega)]; omega), if_neg (fun z => by omega)]
          exact same
        · rw [if_neg (by rw [show (3 : Int32) = nI 3 from rfl, nI_ltI (by omega) (by omega)]; omega)]
          by_cases c2 : tw X l.1 - 48 = d
          · rw [if_pos c2]
            have oin := oI_neg acc (fun k hk => by have := ha k hk; omega)
            by_cases c3 : start < l.1
            · rw [if_neg (by rw [nI_leI (by omega) (by omega)]; omega)]
              cases fw with
              | false =>
                rw [if_neg (by decide), if_neg (fun z => by have := z.2.2.1; rw [decide_eq_true c3] at this; exact absurd this (by decide))]
                exact same
              | true =>
                rw [if_pos (by decide), if_neg (by decide)]
                by_cases c4 : acc = none
                · rw [if_pos (oin.1.mpr c4), if_pos ⟨by omega, c2, (decide_eq_true c3).symm, Or.inr c4⟩]
                  exact take
                · rw [if_neg (fun z => c4 (oin.1.mp z)), if_neg (fun z => by rcases z.2.2.2 with y | y; exact absurd y (by decide); exact c4 y)]
                  exact same
            · rw [if_pos (by rw [nI_leI (by omega) (by omega)]; omega)]
              cases fw with
              | false =>
                rw [if_pos (by decide), if_pos (by decide), if_pos ⟨by omega, c2, (decide_eq_false c3).symm, Or.inl rfl⟩]
                exact take
              | true =>
                rw [if_neg (by decide), if_neg (fun z => by have := z.2.2.1; rw [decide_eq_false c3] at this; exact absurd this (by decide))]
                exact same
          · rw [if_neg c2, if_neg (fun z => c2 z.2.1)]
            exact same
  unfold M_near
  rw [hc, gd_t (inB_nI hcur (by omega)), nI_clamp (by omega), hst]
  exact key N 0 none (by omega) (by omega) (fun k hk => by cases hk)
