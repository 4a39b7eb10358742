/-! ===== statement(): the mnemonic ===== -/
def nmdA (z : Int64) : Nat → Nat → Option Nat
  | 0, _ => none
  | n + 1, k => if M_names k = z then some k else nmdA z n (k + 1)
def nmd (z : Int64) : Option Nat := nmdA z 128 0
theorem nmdA_lt (z : Int64) : ∀ (n k i : Nat), nmdA z n k = some i → k ≤ i ∧ i < k + n ∧ M_names i = z
  | 0, k, i, h => by cases h
  | n + 1, k, i, h => by
    simp only [nmdA] at h
    split at h
    · rename_i c; cases h; exact ⟨Nat.le_refl _, by omega, c⟩
    · have := nmdA_lt z n (k + 1) i h
      exact ⟨by omega, by omega, this.2.2⟩
theorem nmdA_none (z : Int64) : ∀ (n k : Nat), nmdA z n k = none → ∀ i, k ≤ i → i < k + n → M_names i ≠ z
  | 0, k, h, i, h1, h2 => by omega
  | n + 1, k, h, i, h1, h2 => by
    simp only [nmdA] at h
    split at h
    · cases h
    · rename_i c
      by_cases e : i = k
      · subst e; exact c
      · exact nmdA_none z n (k + 1) h i (by omega) (by omega)
def sfx3 (nm : List Int32) : Nat := if 3 < nm.length ∧ ((nm.getD (nm.length - 2) 0 = 97 ∧ nm.getD (nm.length - 1) 0 = 113) ∨ (nm.getD (nm.length - 2) 0 = 114 ∧ nm.getD (nm.length - 1) 0 = 108)) ∧ nm.getD (nm.length - 3) 0 = 46 then 3 else 0
def sfx (nm : List Int32) : Nat :=
  if 5 < nm.length ∧ nm.getD (nm.length - 5) 0 = 46 ∧ nm.getD (nm.length - 4) 0 = 97 ∧ nm.getD (nm.length - 3) 0 = 113 ∧ nm.getD (nm.length - 2) 0 = 114 ∧ nm.getD (nm.length - 1) 0 = 108 then 5
  else sfx3 nm
/-- the operation's number and its order bits -/
def opk (nm : List Int32) : Option (Nat × Int32) := match nmd (pk nm) with
  | some k => some (k, 0)
  | none => if sfx nm = 0 then none else match nmd (pk (nm.take (nm.length - sfx nm))) with
    | some k => if M_shapes k = 9 ∨ M_shapes k = 10 then some (k, if sfx nm = 5 then 100663296 else if nm.getD (nm.length - 1) 0 = 113 then 67108864 else 33554432) else none
    | none => none
def bdM (N : Nat) (s w : Int32) (σ : MS) : Option (Int32 × MS) :=
  if s ≤ 39 then (if s = 12 then cl (M_word w σ) (fun _ σ6 => M_statement_331 N σ6) else (if s = 16 then cl (M_half w σ) (fun _ σ4 => M_statement_331 N σ4) else (if s = 8 then M_statement_237 N s w σ else (if s = 34 then M_statement_237 N s w σ else (if s = 7 then M_statement_269 N s w σ else (if s ≤ 34 then M_statement_280 N s w σ else (if 38 ≤ s then M_statement_280 N s w σ else M_statement_269 N s w σ))))))) else cl (M_directive N s w σ) (fun _ σ8 => M_statement_331 N σ8)
theorem M_141 {N k : Nat} (hk : k < 128) (o : Int32) (σ : MS) : M_statement_141 N (nI k) o σ = bdM N (M_shapes k) (M_patterns k ||| o) σ := by
  unfold M_statement_141 bdM
  rw [if_pos (Int32.not_lt.mp (nI_pos (by omega))), gd_t (inB_nI hk (by omega)), gd_t (inB_nI hk (by omega)), nI_clamp (by omega)]
section
variable {N : Nat} {X : List Int32} {σ0 : MS} {Λ : List Lb} {ln cur start : Nat}
theorem M_named_eq {σ : MS} (T : TX σ (tw X) X.length) (hN : 4200 < N) {p e : Nat} (hp : p ≤ e) (he : e ≤ X.length) : M_named N (nI p) (nI e) σ = some (oI (nmd (pk (cut X p e)))) := by
  have key : ∀ (n k : Nat), k ≤ 128 → 128 - k < n → M_named_10 N n (pk (cut X p e)) (nI k) σ = some (oI (nmdA (pk (cut X p e)) (128 - k) k)) := by
    intro n
    induction n with
    | zero => intro k h1 h2; omega
    | succ n ih =>
      intro k h1 h2
      rw [M_named_10]
      show (if 128 ≤ nI k then _ else _) = _
      by_cases hk : k = 128
      · subst hk
        rw [if_pos (by decide)]
        rfl
      · rw [if_neg (by rw [show (128 : Int32) = nI 128 from rfl, nI_leI (by omega) (by omega)]; omega), gd_t (inB_nI (by omega) (by omega)), nI_clamp (by omega), nI_1]
        simp only [lg_0]
        obtain ⟨j, hj⟩ : ∃ j, 128 - k = j + 1 := ⟨127 - k, by omega⟩
        rw [hj]
        simp only [nmdA]
        by_cases c : M_names k = pk (cut X p e)
        · rw [if_pos c, if_pos c]; rfl
        · rw [if_neg c, if_neg c, ih (k + 1) (by omega) (by omega), show 128 - (k + 1) = j by omega]
  unfold M_named
  rw [M_packed_eq T (by omega) hp he]
  simp only [cr, Option.bind_some]
  exact key N 0 (by omega) (by omega)
theorem M_suffix_eq {σ : MS} (T : TX σ (tw X) X.length) {p e : Nat} (h11 : σ.1 11 = nI p) (h12 : σ.1 12 = nI e) (hp : p ≤ e) (he : e ≤ X.length) : M_suffix σ = some (nI (sfx (cut X p e))) := by
  have hs := T.small
  have hcl := cut_len X (p := p) he
  have g : ∀ i, 1 ≤ i → i ≤ e - p → σ.2 1 (e - i) = (cut X p e).getD ((cut X p e).length - i) 0 := by
    intro i i1 i2
    rw [T.text (e - i) (by omega), hcl, cut_getD X (by omega), show p + (e - p - i) = e - i by omega]
  generalize cut X p e = nm at hcl g
  have hsub : ∀ i, i ≤ e - p → nI e - nI i = nI (e - i) := fun i hi => pk_sub (by omega)
  have m97 : M_suffix_97 (nI (e - p)) σ = some (nI (sfx3 nm)) := by
    unfold M_suffix_97 M_suffix_138 M_suffix_139 M_suffix_181 M_suffix_182 M_suffix_191 M_suffix_211 M_suffix_212 sfx3
    rw [hcl]
    by_cases c3 : 3 < e - p
    · have e1 : nI e - 1 = nI (e - 1) := hsub 1 (by omega)
      have e2 : nI e - 2 = nI (e - 2) := hsub 2 (by omega)
      have e3 : nI e - 3 = nI (e - 3) := hsub 3 (by omega)
      rw [hcl] at g
      have n3 : ¬ nI (e - p) ≤ 3 := by rw [show (3 : Int32) = nI 3 from rfl, nI_leI (by omega) (by omega)]; omega
      simp only [n3, if_false, h12, e1, e2, e3, gd_t (inB_nI (show e - 1 < 4100 by omega) (show 4100 < 2 ^ 31 by decide)), gd_t (inB_nI (show e - 2 < 4100 by omega) (show 4100 < 2 ^ 31 by decide)), gd_t (inB_nI (show e - 3 < 4100 by omega) (show 4100 < 2 ^ 31 by decide)), nI_clamp (show e - 1 < 2 ^ 31 by omega), nI_clamp (show e - 2 < 2 ^ 31 by omega), nI_clamp (show e - 3 < 2 ^ 31 by omega), g 1 (by omega) (by omega), g 2 (by omega) (by omega), g 3 (by omega) (by omega), c3, true_and]
      generalize nm.getD (e - p - 1) 0 = c1
      generalize nm.getD (e - p - 2) 0 = c2
      generalize nm.getD (e - p - 3) 0 = cc
      by_cases a1 : c2 = 97
      · subst a1
        by_cases a2 : c1 = 113
        · subst a2
          by_cases a3 : cc = 46 <;> simp [a3] <;> rfl
        · by_cases a3 : cc = 46 <;> simp [a2, a3] <;> rfl
      · by_cases a4 : c2 = 114
        · subst a4
          by_cases a5 : c1 = 108
          · subst a5
            by_cases a3 : cc = 46 <;> simp [a3] <;> rfl
          · by_cases a3 : cc = 46 <;> simp [a5, a3] <;> rfl
        · by_cases a3 : cc = 46 <;> simp [a1, a4, a3] <;> rfl
    · have n3 : nI (e - p) ≤ 3 := by rw [show (3 : Int32) = nI 3 from rfl, nI_leI (by omega) (by omega)]; omega
      rw [if_pos n3, if_pos n3, if_pos rfl, if_pos rfl, if_neg (fun z => c3 z.1)]
      rfl
  unfold M_suffix sfx
  rw [h11, h12, pk_sub hp]
  by_cases c5 : 5 < nm.length
  · have c5' : 5 < e - p := by omega
    have e1 : nI e - 1 = nI (e - 1) := hsub 1 (by omega)
    have e2 : nI e - 2 = nI (e - 2) := hsub 2 (by omega)
    have e3 : nI e - 3 = nI (e - 3) := hsub 3 (by omega)
    have e4 : nI e - 4 = nI (e - 4) := hsub 4 (by omega)
    have e5 : nI e - 5 = nI (e - 5) := hsub 5 (by omega)
    rw [if_neg (by rw [show (5 : Int32) = nI 5 from rfl, nI_leI (by omega) (by omega)]; omega), e1, e2, e3, e4, e5, gd_t (inB_nI (by omega) (by omega)), gd_t (inB_nI (by omega) (by omega)), gd_t (inB_nI (by omega) (by omega)), gd_t (inB_nI (by omega) (by omega)), gd_t (inB_nI (by omega) (by omega)), nI_clamp (by omega), nI_clamp (by omega), nI_clamp (by omega), nI_clamp (by omega), nI_clamp (by omega), g 1 (by omega) (by omega), g 2 (by omega) (by omega), g 3 (by omega) (by omega), g 4 (by omega) (by omega), g 5 (by omega) (by omega), m97]
    by_cases a5 : nm.getD (nm.length - 5) 0 = 46
    · rw [if_pos a5]
      by_cases a4 : nm.getD (nm.length - 4) 0 = 97
      · rw [if_pos a4]
        by_cases a3 : nm.getD (nm.length - 3) 0 = 113
        · rw [if_pos a3]
          by_cases a2 : nm.getD (nm.length - 2) 0 = 114
          · rw [if_pos a2]
            by_cases a1 : nm.getD (nm.length - 1) 0 = 108
            · rw [if_pos a1, if_pos ⟨c5, a5, a4, a3, a2, a1⟩]; rfl
            · rw [if_neg a1, if_neg (fun z => a1 z.2.2.2.2.2)]
          · rw [if_neg a2, if_neg (fun z => a2 z.2.2.2.2.1)]
        · rw [if_neg a3, if_neg (fun z => a3 z.2.2.2.1)]
      · rw [if_neg a4, if_neg (fun z => a4 z.2.2.1)]
    · rw [if_neg a5, if_neg (fun z => a5 z.2.1)]
  · rw [if_pos (by rw [show (5 : Int32) = nI 5 from rfl, nI_leI (by omega) (by omega)]; omega), m97, if_neg (fun z => c5 z.1)]
theorem sfx_le (nm : List Int32) : sfx nm ≤ nm.length := by
  unfold sfx
  split
  · rename_i h; omega
  · unfold sfx3
    split
    · rename_i h; omega
    · omega
theorem cut_take (X : List Int32) {p e k : Nat} (he : e ≤ X.length) (hk : k ≤ e - p) : (cut X p e).take (e - p - k) = cut X p (e - k) := by
  unfold cut
  rw [List.take_take]
  congr 1
  omega
/-- the state in which a statement begins -/
def st0 (σ : MS) (md : Int32) (start : Nat) : MS := sF (sF (sF (sF σ 17 md) 9 (nI start)) 20 0) 22 0
theorem M_stm (σ : MS) {md : Int32} (C : Cx N X (st0 σ md start) Λ ln cur start) (hst : start ≤ X.length) {a : AT} {r : List AT} (hl : lexS X start = a :: r) (hk : a.k = 2) {Q : Int32 → MS → Prop} (h2 : opk a.nm = none → ∀ σ1, FS X (st0 σ md start) (fl ln 2) σ1 → Q 0 σ1) (go : ∀ k o, opk a.nm = some (k, o) → k < 128 → ∀ σ1, GR X (st0 σ md start) r [] σ1 → RR (bdM N (M_shapes k) (M_patterns k ||| o) σ1) Q) : RR (M_statement N (nI start) md σ) Q := by
  have hN := C.1
  have hs := C.2.1.small
  have hG0 : GR X (st0 σ md start) (a :: r) [] (st0 σ md start) := ⟨start, hl, ⟨fun _ _ => rfl, fun _ _ => rfl⟩, hst, rfl, rfl, by unfold gw; split <;> rfl⟩
  obtain ⟨q, a', r', σ1, e, hl', hg, s1, s2, s3, s4, s5, s6, s7⟩ := G_scan C hG0
  cases e
  have k0 : a.k ≠ 0 := by rw [hk]; decide
  have k1 : a.k ≠ 1 := by rw [hk]; decide
  obtain ⟨v1, v2, v3, v4, v5, v6, v7, v8, v9, -⟩ := s2.2.2.2.2 k0 k1
  obtain ⟨er, hTF⟩ := s6 k0 k1
  obtain ⟨g1, g2, g3, g4, g5⟩ := hTF.2.2.2 hk
  have hG1 : GR X (st0 σ md start) r [] σ1 := ⟨a.e, er.symm, s3, v9, v2, s4, s5⟩
  have eM : M_statement N (nI start) md σ = (cr (M_suffix σ1) (fun r7 => cr (M_named N (σ1.1 11) (σ1.1 12) σ1) (fun r8 => (if 0 ≤ r8 then M_statement_141 N r8 0 σ1 else (if r7 ≤ 0 then M_statement_141 N r8 0 σ1 else cr (M_named N (σ1.1 11) ((σ1.1 12) - r7) σ1) (fun r9 => (if r7 = 5 then M_statement_107 N r9 100663296 σ1 else gd (inB ((σ1.1 12) - 1) 4100) ((if (σ1.2 1 ((σ1.1 12) - 1).toNatClampNeg) = 113 then M_statement_107 N r9 67108864 σ1 else M_statement_107 N r9 33554432 σ1))))))))) := by
    unfold M_statement
    simp only [bnd]
    rw [show sF (sF (sF (sF σ 17 md) 9 (nI start)) 20 0) 22 0 = st0 σ md start from rfl, s1]
    rfl
  have hsl := sfx_le a.nm
  have hnl : a.nm.length = a.e - a.p := by rw [g1, cut_len X v9]
  have neg141 : ∀ o, opk a.nm = none → RR (M_statement_141 N (-1) o σ1) Q := by
    intro o ho
    unfold M_statement_141
    refine RR_n (by decide) (RR_then (G_blame C s3 s2.pos 2 (k := 2) rfl) (fun _ σ2 h3 => RR_ret (h2 ho σ2 h3.1)))
  rw [eM, M_suffix_eq s7 v3 v4 (by omega) v9, v3, v4, M_named_eq s7 hN (by omega) v9, ← g1]
  simp only [cr, Option.bind_some]
  cases hn : nmd (pk a.nm) with
  | some k =>
    have hk' := nmdA_lt _ _ _ _ hn
    have ho : opk a.nm = some (k, 0) := by unfold opk; rw [hn]
    rw [show oI (some k) = nI k from rfl]
    refine RR_y (Int32.not_lt.mp (nI_pos (by omega))) ?_
    rw [M_141 (by omega)]
    exact go k 0 ho (by omega) σ1 hG1
  | none =>
    rw [show oI none = -1 from rfl]
    refine RR_n (by decide) ?_
    by_cases hz : sfx a.nm = 0
    · have ho : opk a.nm = none := by unfold opk; rw [hn]; simp only []; rw [if_pos hz]
      rw [hz]
      exact RR_y (by decide) (neg141 0 ho)
    · refine RR_n (by rw [show (0 : Int32) = nI 0 from rfl, nI_leI (by omega) (by omega)]; omega) ?_
      rw [pk_sub (show sfx a.nm ≤ a.e by omega), M_named_eq s7 hN (by omega) (by omega), ← cut_take X v9 (k := sfx a.nm) (by omega), ← g1, ← hnl]
      simp only [Option.bind_some]
      have e1 : nI a.e - 1 = nI (a.e - 1) := pk_sub (a := a.e) (b := 1) (by omega)
      have gl : σ1.2 1 (a.e - 1) = a.nm.getD (a.nm.length - 1) 0 := by
        rw [s7.text (a.e - 1) (by omega), hnl]
        show X.getD (a.e - 1) 0 = _
        rw [g1, cut_getD X (by omega), show a.p + (a.e - a.p - 1) = a.e - 1 by omega]
      rw [e1, gd_t (inB_nI (by omega) (by omega)), nI_clamp (by omega), gl]
      have k107 : ∀ o, o = (if sfx a.nm = 5 then 100663296 else if a.nm.getD (a.nm.length - 1) 0 = 113 then (67108864 : Int32) else 33554432) → RR (M_statement_107 N (oI (nmd (pk (a.nm.take (a.nm.length - sfx a.nm))))) o σ1) Q := by
        intro o ho
        unfold M_statement_107
        cases hn2 : nmd (pk (a.nm.take (a.nm.length - sfx a.nm))) with
        | none =>
          have hop : opk a.nm = none := by unfold opk; rw [hn]; simp only []; rw [if_neg hz, hn2]
          rw [show oI none = -1 from rfl]
          exact RR_y (by decide) (neg141 o hop)
        | some k =>
          have hk' := nmdA_lt _ _ _ _ hn2
          rw [show oI (some k) = nI k from rfl]
          refine RR_n (nI_pos (by omega)) ?_
          rw [gd_t (inB_nI (by omega) (by omega)), gd_t (inB_nI (by omega) (by omega)), nI_clamp (by omega), M_141 (by omega)]
          by_cases h9 : M_shapes k = 9 ∨ M_shapes k = 10
          · have hop : opk a.nm = some (k, o) := by
              unfold opk; rw [hn]; simp only []; rw [if_neg hz, hn2]; simp only []; rw [if_pos h9, ho]
            have := go k o hop (by omega) σ1 hG1
            rcases h9 with h | h
            · exact RR_y h this
            · exact RR_if (fun _ => this) (fun _ => RR_y h this)
          · have hop : opk a.nm = none := by
              unfold opk; rw [hn]; simp only []; rw [if_neg hz, hn2]; simp only []; rw [if_neg h9]
            simp only [not_or] at h9
            exact RR_n h9.1 (RR_n h9.2 (neg141 o hop))
      by_cases h5 : sfx a.nm = 5
      · rw [if_pos (by rw [h5]; rfl)]
        exact k107 _ (by rw [if_pos h5])
      · have hs2 : sfx a.nm = 3 := by
          revert h5 hz
          unfold sfx
          split
          · intro _ h; exact absurd rfl h
          · unfold sfx3
            split
            · intro _ _; rfl
            · intro h; exact absurd rfl h
        rw [if_neg (by rw [hs2]; decide)]
        by_cases hq : a.nm.getD (a.nm.length - 1) 0 = 113
        · rw [if_pos hq]; exact k107 _ (by rw [if_neg h5, if_pos hq])
        · rw [if_neg hq]; exact k107 _ (by rw [if_neg h5, if_neg hq])
/-- the line's end asked for -/
theorem G_needE (C : Cx N X σ0 Λ ln cur start) {ts : List AT} {B : List Int32} {σ : MS} (h : GR X σ0 ts B σ) : RR (M_needs N 0 σ) (fun _ σ' => (atE ts = true ∧ GR X σ0 ts B σ') ∨ (atE ts = false ∧ FS X σ0 (fl ln 1) σ')) := by
  obtain ⟨q, a, r, σ1, e, hl, hg, s1, s2, s3, s4, s5, s6, s7⟩ := G_scan C h
  subst e
  unfold M_needs M_needs_17 M_needs_30
  rw [s1]
  simp only [cl, Option.bind_some]
  have tok : (σ1.1 10 = 0) ↔ a.k = 0 := by
    by_cases k0 : a.k = 0
    · rw [(s2.2.2.1 k0).1]; exact ⟨fun _ => k0, fun _ => rfl⟩
    by_cases k1 : a.k = 1
    · rw [(s2.2.2.2.1 k1).1, k1]; decide
    rw [(s2.2.2.2.2 k0 k1).1]
    exact rk_0 (s6 k0 k1).2.1
  by_cases y : a.k = 0
  · rw [if_pos (tok.mpr y), if_pos (tok.mpr y), gd_t (by decide)]
    obtain ⟨-, q', w1, w2, w3, -, -, w6, -⟩ := s2.2.2.1 y
    refine ⟨1, σ1, rfl, Or.inl ⟨?_, ⟨q', w6.trans hl, s3, w2, w3, s4, s5⟩⟩⟩
    show decide (a.k = 0) = true
    exact decide_eq_true y
  · obtain ⟨v, σ2, b1, b2', b3, b4⟩ := G_blame C s3 s2.pos 1 (k := 1) rfl
    rw [if_neg (fun z => y (tok.mp z)), b1]
    simp only [Option.bind_some]
    rw [if_neg (by rw [b3 10 (by decide)]; exact fun z => y (tok.mp z)), gd_t (by decide)]
    refine ⟨0, σ2, rfl, Or.inr ⟨?_, b2'⟩⟩
    show decide (a.k = 0) = false
    exact decide_eq_false y
end
