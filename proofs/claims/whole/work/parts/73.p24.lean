/-! ===== the reference's statements: runs, and what comes of them ===== -/
def RR (o : Option (Int32 × MS)) (Q : Int32 → MS → Prop) : Prop := ∃ v σ', o = some (v, σ') ∧ Q v σ'
section
variable {Q Q' P : Int32 → MS → Prop} {o a b : Option (Int32 × MS)} {k : Int32 → MS → Option (Int32 × MS)}
theorem RR_ret {v : Int32} {σ : MS} (h : Q v σ) : RR (some (v, σ)) Q := ⟨v, σ, rfl, h⟩
theorem RR_imp (h : RR o Q) (hq : ∀ v σ, Q v σ → Q' v σ) : RR o Q' := by
  obtain ⟨v, σ, e, g⟩ := h
  exact ⟨v, σ, e, hq v σ g⟩
theorem RR_then (h : RR o P) (hk : ∀ v σ, P v σ → RR (k v σ) Q) : RR (cl o k) Q := by
  obtain ⟨v, σ, e, g⟩ := h
  rw [e]
  exact hk v σ g
theorem RR_if {c : Prop} [Decidable c] (h1 : c → RR a Q) (h2 : ¬ c → RR b Q) : RR (if c then a else b) Q := by
  by_cases h : c
  · rw [if_pos h]; exact h1 h
  · rw [if_neg h]; exact h2 h
theorem RR_y {c : Prop} [Decidable c] (hc : c) (h : RR a Q) : RR (if c then a else b) Q := by rw [if_pos hc]; exact h
theorem RR_n {c : Prop} [Decidable c] (hc : ¬ c) (h : RR b Q) : RR (if c then a else b) Q := by rw [if_neg hc]; exact h
theorem RR_cr {r : Option Int32} {v : Int32} {f : Int32 → Option (Int32 × MS)} (e : r = some v) (h : RR (f v) Q) : RR (cr r f) Q := by
  rw [e]; exact h
theorem RR_gd {c : Bool} (h : c = true) (hx : RR a Q) : RR (gd c a) Q := by rw [gd_t h]; exact hx
theorem RR_bnd {α : Type} {e : α} {f : α → Option (Int32 × MS)} (h : RR (f e) Q) : RR (bnd e f) Q := h
end
/-- numbers that a statement may change without a fault, and those with one -/
def volZ (j : Nat) : Bool := decide (9 ≤ j ∧ j ≤ 13) || decide (j = 20) || decide (j = 22) || decide (24 ≤ j ∧ j ≤ 28)
def FZ (σ0 σ : MS) : Prop := (∀ j, volZ j = false → σ.1 j = σ0.1 j) ∧ (∀ k, k ≠ 7 → σ.2 k = σ0.2 k)
def volR (j : Nat) : Bool := volZ j || decide (j = 14) || decide (j = 16) || decide (j = 23)
def FR (σ0 σ : MS) : Prop := (∀ j, volR j = false → σ.1 j = σ0.1 j) ∧ (∀ k, k ≠ 2 → k ≠ 4 → k ≠ 7 → σ.2 k = σ0.2 k)
theorem volR_Z {j : Nat} (h : volR j = false) : volZ j = false := by
  unfold volR at h
  revert h
  cases volZ j <;> simp
theorem FZ.fr {σ0 σ : MS} (h : FZ σ0 σ) : FR σ0 σ := ⟨fun j hj => h.1 j (volR_Z hj), fun k _ _ h7 => h.2 k h7⟩
theorem vol_sc {j : Nat} (h : volR j = false) : j ≠ 9 ∧ j ≠ 10 ∧ j ≠ 11 ∧ j ≠ 12 ∧ j ≠ 13 ∧ j ≠ 14 ∧ j ≠ 16 ∧ j ≠ 20 ∧ j ≠ 22 ∧ j ≠ 23 ∧ j ≠ 24 ∧ j ≠ 25 ∧ j ≠ 26 ∧ j ≠ 27 ∧ j ≠ 28 := by
  refine ⟨?_, ?_, ?_, ?_, ?_, ?_, ?_, ?_, ?_, ?_, ?_, ?_, ?_, ?_, ?_⟩ <;> (intro z; subst z; exact absurd h (by decide))
theorem vol_z {j : Nat} (h : volZ j = false) : j ≠ 9 ∧ j ≠ 10 ∧ j ≠ 11 ∧ j ≠ 12 ∧ j ≠ 13 ∧ j ≠ 20 ∧ j ≠ 22 ∧ j ≠ 24 ∧ j ≠ 25 ∧ j ≠ 26 ∧ j ≠ 27 ∧ j ≠ 28 := by
  refine ⟨?_, ?_, ?_, ?_, ?_, ?_, ?_, ?_, ?_, ?_, ?_, ?_⟩ <;> (intro z; subst z; exact absurd h (by decide))
def gwi (w : Int32) : List Int32 → Int32
  | [] => 0
  | b :: r => if nI r.length = w then b else gwi w r
def gw (σ0 : MS) (B : List Int32) : Int32 := if σ0.1 17 = 3 then gwi (σ0.1 21) B.reverse else 0
theorem gw_snoc (σ0 : MS) (B : List Int32) (b : Int32) : gw σ0 (B ++ [b]) = if σ0.1 17 = 3 then (if nI B.length = σ0.1 21 then b else gw σ0 B) else 0 := by
  unfold gw
  by_cases h : σ0.1 17 = 3
  · simp only [h, if_true, List.reverse_append, List.reverse_cons, List.reverse_nil, List.nil_append, List.singleton_append, gwi, List.length_reverse]
  · simp only [h, if_false]
def GS (X : List Int32) (σ0 : MS) (q : Nat) (B : List Int32) (σ : MS) : Prop := FZ σ0 σ ∧ q ≤ X.length ∧ σ.1 9 = nI q ∧ σ.1 20 = nI B.length ∧ σ.1 22 = gw σ0 B
def GR (X : List Int32) (σ0 : MS) (ts : List AT) (B : List Int32) (σ : MS) : Prop := ∃ q, lexS X q = ts ∧ GS X σ0 q B σ
def FS (X : List Int32) (σ0 : MS) (F : Int32) (σ : MS) : Prop := FR σ0 σ ∧ At9 X σ ∧ σ.1 14 = F
/-- where a statement of the reference stands -/
def Cx (N : Nat) (X : List Int32) (σ0 : MS) (Λ : List Lb) (ln cur start : Nat) : Prop := 4200 < N ∧ TX σ0 (tw X) X.length ∧ LBs X σ0 Λ ∧ σ0.1 15 = nI ln ∧ ln < 10000 ∧ σ0.1 18 = nI cur ∧ cur < 1030 ∧ (σ0.2 2 cur &&& 8191 = nI start) ∧ start < 8192 ∧ σ0.1 14 = 0
/-- the fault k in this line -/
abbrev fl (ln k : Nat) : Int32 := nI (k + 16 * ln)
section
variable {N : Nat} {X : List Int32} {σ0 : MS} {Λ : List Lb} {ln cur start : Nat}
theorem SC.fz {σ σ' : MS} {q : Nat} {a : AT} (h : SC σ σ' X q a) (hF : FZ σ0 σ) : FZ σ0 σ' := by
  refine ⟨fun j hj => ?_, fun k hk => by rw [h.2.1]; exact hF.2 k hk⟩
  obtain ⟨j1, j2, j3, j4, j5, -⟩ := vol_z hj
  rw [h.1 j j1 j2 j3 j4 j5]
  exact hF.1 j hj
theorem SC.fr {σ σ' : MS} {q : Nat} {a : AT} (h : SC σ σ' X q a) (hF : FR σ0 σ) : FR σ0 σ' := by
  refine ⟨fun j hj => ?_, fun k h2 h4 h7 => by rw [h.2.1]; exact hF.2 k h2 h4 h7⟩
  obtain ⟨j1, j2, j3, j4, j5, -⟩ := vol_sc hj
  rw [h.1 j j1 j2 j3 j4 j5]
  exact hF.1 j hj
theorem FR.tx {σ : MS} (h : FR σ0 σ) {w : Nat → Int32} {n : Nat} (T : TX σ0 w n) : TX σ w n := ⟨by rw [h.1 2 (by decide)]; exact T.size, fun k hk => by rw [h.2 1 (by decide) (by decide) (by decide)]; exact T.text k hk, T.small⟩
theorem FS_scan (C : Cx N X σ0 Λ ln cur start) {F : Int32} {σ : MS} (h : FS X σ0 F σ) : RR (M_scan N σ) (fun _ σ' => FS X σ0 F σ') := by
  obtain ⟨hF, ⟨q, hq, h9⟩, h14⟩ := h
  have hs := C.2.1.small
  have hN := C.1
  obtain ⟨a, r, hl⟩ := lexS_ne X q
  obtain ⟨σ', s1, s2, s3⟩ := M_scanA (N := N) (hF.tx C.2.1) (by omega) hq h9 hl
  exact ⟨0, σ', s1, s2.fr hF, s2.pos, by rw [s2.1 14 (by decide) (by decide) (by decide) (by decide) (by decide)]; exact h14⟩
theorem FS_blame {F x : Int32} {σ : MS} (hF : F ≠ 0) (h : FS X σ0 F σ) : RR (M_blame x σ) (fun _ σ' => FS X σ0 F σ') :=
  ⟨0, σ, M_blame_no x (by rw [h.2.2]; exact hF), h⟩
theorem G_blame (C : Cx N X σ0 Λ ln cur start) {σ : MS} (hF : FZ σ0 σ) (h9 : At9 X σ) (x : Int32) {k : Nat} (hx : x = nI k) : RR (M_blame x σ) (fun _ σ' => FS X σ0 (fl ln k) σ' ∧ (∀ j, j ≠ 14 → σ'.1 j = σ.1 j) ∧ σ'.2 = σ.2) := by
  obtain ⟨c1, c2, c3, c4, c5, c6, c7, c8, c9, c10⟩ := C
  have h14 : σ.1 14 = 0 := by rw [hF.1 14 (by decide)]; exact c10
  have h15 : σ.1 15 = nI ln := by rw [hF.1 15 (by decide)]; exact c4
  refine ⟨0, _, M_blame_eq x h14, ⟨⟨fun j hj => ?_, fun k _ _ h7 => hF.2 k h7⟩, ?_, ?_⟩, fun j hj => sF_ne _ _ hj, rfl⟩
  · obtain ⟨j1, j2, j3, j4, j5, j6, -⟩ := vol_sc hj
    rw [sF_ne _ _ j6]
    exact hF.1 j (volR_Z hj)
  · obtain ⟨q, q1, q2⟩ := h9
    exact ⟨q, q1, by rw [sF_ne _ _ (by decide)]; exact q2⟩
  · rw [sF_at, h15, hx, fl_val]
/-- one token asked for -/
def tk1 (c : Int32) : List AT → Option (AT × List AT)
  | a :: r => if a.k = c then some (a, r) else none
  | [] => none
theorem rk_inj {k c : Int32} (hk : okK k) (hc : c = 44 ∨ c = 40 ∨ c = 41 ∨ c = 6 ∨ c = 2 ∨ c = 58 ∨ c = 0) : rk k = rk c ↔ k = c := by
  rcases hc with h | h | h | h | h | h | h <;> subst h <;> (rcases hk with h | h | h | h | h | h | h | h | h | h | h | h | h | h | h | h | h | h | h | h | h <;> subst h <;> decide)
theorem rk_bad {c : Int32} (hc : c = 44 ∨ c = 40 ∨ c = 41 ∨ c = 6 ∨ c = 2 ∨ c = 58 ∨ c = 0) : rk c ≠ 5 := by
  rcases hc with h | h | h | h | h | h | h <;> subst h <;> decide
/-- scan() where tokens lie ahead -/
theorem G_scan (C : Cx N X σ0 Λ ln cur start) {ts : List AT} {B : List Int32} {σ : MS} (h : GR X σ0 ts B σ) : ∃ (q : Nat) (a : AT) (r : List AT) (σ' : MS), ts = a :: r ∧ lexS X q = a :: r ∧ GS X σ0 q B σ ∧ M_scan N σ = some (0, σ') ∧ SC σ σ' X q a ∧ FZ σ0 σ' ∧ σ'.1 20 = nI B.length ∧ σ'.1 22 = gw σ0 B ∧ (a.k ≠ 0 → a.k ≠ 1 → r = lexS X a.e ∧ TokF X a) ∧ TX σ' (tw X) X.length := by
  obtain ⟨q, hl, hF, hq, h9, h20, h22⟩ := h
  have hs := C.2.1.small
  have hN := C.1
  obtain ⟨a, r, hl2⟩ := lexS_ne X q
  have e : ts = a :: r := hl.symm.trans hl2
  obtain ⟨σ', s1, s2, s3⟩ := M_scanA (N := N) (hF.fr.tx C.2.1) (by omega) hq h9 hl2
  have hF' := s2.fz hF
  exact ⟨q, a, r, σ', e, hl2, ⟨hF, hq, h9, h20, h22⟩, s1, s2, hF', by rw [s2.1 20 (by decide) (by decide) (by decide) (by decide) (by decide)]; exact h20, by rw [s2.1 22 (by decide) (by decide) (by decide) (by decide) (by decide)]; exact h22, fun k0 k1 => ⟨s3 k0 k1, (lexS_F hl2 k0 k1).1⟩, hF'.fr.tx C.2.1⟩
theorem G_needs (C : Cx N X σ0 Λ ln cur start) {ts : List AT} {B : List Int32} {σ : MS} (h : GR X σ0 ts B σ) {c t : Int32} (hc : c = 44 ∨ c = 40 ∨ c = 41 ∨ c = 6 ∨ c = 2 ∨ c = 58) (ht : t = rk c) :
    RR (M_needs N t σ) (fun v σ' => (∃ a r, tk1 c ts = some (a, r) ∧ v = 1 ∧ GR X σ0 r B σ' ∧ σ'.1 11 = nI a.p ∧ σ'.1 12 = nI a.e ∧ TokF X a) ∨ (tk1 c ts = none ∧ v = 0 ∧ FS X σ0 (fl ln 1) σ')) := by
  obtain ⟨q, a, r, σ1, e, hl, hg, s1, s2, s3, s4, s5, s6, -⟩ := G_scan C h
  have hc' : c = 44 ∨ c = 40 ∨ c = 41 ∨ c = 6 ∨ c = 2 ∨ c = 58 ∨ c = 0 := by
    rcases hc with h | h | h | h | h | h <;> simp [h]
  have hc0 : c ≠ 0 ∧ c ≠ 1 := by rcases hc with h | h | h | h | h | h <;> subst h <;> decide
  subst e
  have tok : (σ1.1 10 = t) ↔ a.k = c := by
    rw [ht]
    by_cases k0 : a.k = 0
    · rw [(s2.2.2.1 k0).1, k0]
      exact ⟨fun z => absurd (show rk 0 = rk c from z) (fun y => hc0.1 (((rk_inj (Or.inl rfl) hc').mp y).symm)), fun z => absurd z.symm hc0.1⟩
    by_cases k1 : a.k = 1
    · rw [(s2.2.2.2.1 k1).1, k1]
      exact ⟨fun z => absurd z.symm (rk_bad hc'), fun z => absurd z.symm hc0.2⟩
    rw [(s2.2.2.2.2 k0 k1).1]
    exact rk_inj ((s6 k0 k1).2.1) hc'
  unfold M_needs M_needs_17 M_needs_30
  rw [s1]
  simp only [cl, Option.bind_some]
  by_cases y : a.k = c
  · rw [if_pos (tok.mpr y), if_pos (tok.mpr y), gd_t (by decide)]
    have k0 : a.k ≠ 0 := by rw [y]; exact hc0.1
    have k1 : a.k ≠ 1 := by rw [y]; exact hc0.2
    obtain ⟨v1, v2, v3, v4, v5, v6, v7, v8, v9, -⟩ := s2.2.2.2.2 k0 k1
    exact ⟨1, σ1, rfl, Or.inl ⟨a, r, if_pos y, rfl, ⟨a.e, (s6 k0 k1).1.symm, s3, v9, v2, s4, s5⟩, v3, v4, (s6 k0 k1).2⟩⟩
  · obtain ⟨v, σ2, b1, b2', b3, b4⟩ := G_blame C s3 s2.pos 1 (k := 1) rfl
    have t2 : ¬ σ2.1 10 = t := by rw [b3 10 (by decide)]; exact fun z => y (tok.mp z)
    rw [if_neg (fun z => y (tok.mp z)), b1]
    simp only [Option.bind_some]
    rw [if_neg t2, gd_t (by decide)]
    exact ⟨0, σ2, rfl, Or.inr ⟨if_neg y, rfl, b2'⟩⟩
theorem FS_needs (C : Cx N X σ0 Λ ln cur start) {F t : Int32} {σ : MS} (hF : F ≠ 0) (h : FS X σ0 F σ) : RR (M_needs N t σ) (fun _ σ' => FS X σ0 F σ') := by
  unfold M_needs M_needs_17 M_needs_30
  refine RR_then (FS_scan C h) (fun v σ1 h1 => ?_)
  have fin : ∀ σ2, FS X σ0 F σ2 → RR (if σ2.1 10 = t then gd (isB 1) (some (1, σ2)) else gd (isB 0) (some (0, σ2))) (fun _ σ' => FS X σ0 F σ') := fun σ2 h2 => RR_if (fun _ => RR_gd (by decide) (RR_ret h2)) (fun _ => RR_gd (by decide) (RR_ret h2))
  exact RR_if (fun _ => fin σ1 h1) (fun _ => RR_then (FS_blame hF h1) (fun _ σ2 h2 => fin σ2 h2))
theorem G_comma (C : Cx N X σ0 Λ ln cur start) {ts : List AT} {B : List Int32} {σ : MS} (h : GR X σ0 ts B σ) : RR (M_comma N σ) (fun v σ' => (∃ a r, tk1 44 ts = some (a, r) ∧ v = 1 ∧ GR X σ0 r B σ') ∨ (tk1 44 ts = none ∧ v = 0 ∧ FS X σ0 (fl ln 1) σ')) := by
  unfold M_comma M_comma_20 M_comma_21
  obtain ⟨q, -, hG⟩ := id h
  refine RR_y (by rw [hG.1.1 14 (by decide)]; exact C.2.2.2.2.2.2.2.2.2) (RR_then (G_needs C h (Or.inl rfl) rfl) (fun v σ' h2 => ?_))
  rcases h2 with ⟨a, r, h3, h4, h5, -⟩ | ⟨h3, h4, h5⟩
  · exact RR_n (by rw [h4]; decide) (RR_gd (by decide) (RR_ret (Or.inl ⟨a, r, h3, rfl, h5⟩)))
  · exact RR_y h4 (RR_gd (by decide) (RR_ret (Or.inr ⟨h3, rfl, h5⟩)))
theorem FS_comma {F : Int32} {σ : MS} (hF : F ≠ 0) (h : FS X σ0 F σ) : RR (M_comma N σ) (fun v σ' => v = 0 ∧ FS X σ0 F σ') := by
  unfold M_comma M_comma_20 M_comma_21
  exact RR_n (by rw [h.2.2]; exact hF) (RR_gd (by decide) (RR_ret ⟨rfl, h⟩))
/-- a register asked for: fault, number, what is left -/
def tkR : List AT → Nat × Int32 × List AT
  | a :: r => if a.k = 0 ∨ a.k = 1 then (1, 0, []) else if a.k = 2 ∧ 0 ≤ regR a.nm then (0, regR a.nm, r) else (3, 0, [])
  | [] => (1, 0, [])
theorem G_taken (C : Cx N X σ0 Λ ln cur start) {ts : List AT} {B : List Int32} {σ : MS} (h : GR X σ0 ts B σ) : RR (M_taken N σ) (fun v σ' => ((tkR ts).1 = 0 ∧ v = (tkR ts).2.1 ∧ GR X σ0 (tkR ts).2.2 B σ') ∨ ((tkR ts).1 ≠ 0 ∧ v = 0 ∧ FS X σ0 (fl ln (tkR ts).1) σ')) := by
  obtain ⟨q, a, r, σ1, e, hl, hg, s1, s2, s3, s4, s5, s6, s7⟩ := G_scan C h
  have hN := C.1
  subst e
  unfold M_taken M_taken_28 M_taken_44 M_taken_61 M_taken_70
  rw [s1]
  simp only [cl, Option.bind_some]
  have bad1 : σ1.1 10 = 0 ∨ σ1.1 10 = 5 → tkR (a :: r) = (1, 0, []) → RR (if (σ1.1 10) = 1 then cr (M_register N (σ1.1 11) (σ1.1 12) σ1) (fun r3 => (if (σ1.1 10) = 0 then (M_blame 1 σ1).bind (fun q => (if 0 ≤ r3 then some (r3, q.2) else some (0, q.2))) else (if (σ1.1 10) = 5 then (M_blame 1 σ1).bind (fun q => (if 0 ≤ r3 then some (r3, q.2) else some (0, q.2))) else (if 0 ≤ r3 then (if 0 ≤ r3 then some (r3, σ1) else some (0, σ1)) else (M_blame 3 σ1).bind (fun q => (if 0 ≤ r3 then some (r3, q.2) else some (0, q.2))))))) else (if (σ1.1 10) = 0 then (M_blame 1 σ1).bind (fun q => (if 0 ≤ (-1 : Int32) then some (-1, q.2) else some (0, q.2))) else (if (σ1.1 10) = 5 then (M_blame 1 σ1).bind (fun q => (if 0 ≤ (-1 : Int32) then some (-1, q.2) else some (0, q.2))) else (if 0 ≤ (-1 : Int32) then (if 0 ≤ (-1 : Int32) then some (-1, σ1) else some (0, σ1)) else (M_blame 3 σ1).bind (fun q => (if 0 ≤ (-1 : Int32) then some (-1, q.2) else some (0, q.2))))))) (fun v σ' => ((tkR (a :: r)).1 = 0 ∧ v = (tkR (a :: r)).2.1 ∧ GR X σ0 (tkR (a :: r)).2.2 B σ') ∨ ((tkR (a :: r)).1 ≠ 0 ∧ v = 0 ∧ FS X σ0 (fl ln (tkR (a :: r)).1) σ')) := by
    intro ht hk
    obtain ⟨v, σ2, b1, b2', b3, b4⟩ := G_blame C s3 s2.pos 1 (k := 1) rfl
    have n1 : ¬ σ1.1 10 = 1 := by rcases ht with h | h <;> rw [h] <;> decide
    rw [if_neg n1, b1, hk]
    simp only [Option.bind_some]
    rcases ht with h | h
    · rw [if_pos h, if_neg (by decide)]
      exact ⟨0, σ2, rfl, Or.inr ⟨by decide, rfl, b2'⟩⟩
    · rw [if_neg (by rw [h]; decide), if_pos h, if_neg (by decide)]
      exact ⟨0, σ2, rfl, Or.inr ⟨by decide, rfl, b2'⟩⟩
  by_cases k0 : a.k = 0
  · exact bad1 (Or.inl (s2.2.2.1 k0).1) (by show (if _ then _ else _) = _; rw [if_pos (Or.inl k0)])
  by_cases k1 : a.k = 1
  · exact bad1 (Or.inr (s2.2.2.2.1 k1).1) (by show (if _ then _ else _) = _; rw [if_pos (Or.inr k1)])
  obtain ⟨v1, v2, v3, v4, v5, v6, v7, v8, v9, -⟩ := s2.2.2.2.2 k0 k1
  obtain ⟨er, hTF⟩ := s6 k0 k1
  have f7 := (okK_facts hTF.1).2.2.2.2.2.2.1
  have hr0 : rk a.k ≠ 0 := fun z => k0 ((rk_inj (c := 0) hTF.1 (by simp)).mp z)
  have hr5 : rk a.k ≠ 5 := by
    rcases hTF.1 with h | h | h | h | h | h | h | h | h | h | h | h | h | h | h | h | h | h | h | h | h <;> rw [h] <;> decide
  have bad3 : ∀ x : Int32, ¬ 0 ≤ x → tkR (a :: r) = (3, 0, []) → RR (if (σ1.1 10) = 0 then (M_blame 1 σ1).bind (fun q => (if 0 ≤ x then some (x, q.2) else some (0, q.2))) else (if (σ1.1 10) = 5 then (M_blame 1 σ1).bind (fun q => (if 0 ≤ x then some (x, q.2) else some (0, q.2))) else (if 0 ≤ x then (if 0 ≤ x then some (x, σ1) else some (0, σ1)) else (M_blame 3 σ1).bind (fun q => (if 0 ≤ x then some (x, q.2) else some (0, q.2)))))) (fun v σ' => ((tkR (a :: r)).1 = 0 ∧ v = (tkR (a :: r)).2.1 ∧ GR X σ0 (tkR (a :: r)).2.2 B σ') ∨ ((tkR (a :: r)).1 ≠ 0 ∧ v = 0 ∧ FS X σ0 (fl ln (tkR (a :: r)).1) σ')) := by
    intro x hx hk
    obtain ⟨v, σ2, b1, b2', b3, b4⟩ := G_blame C s3 s2.pos 3 (k := 3) rfl
    rw [v1, if_neg hr0, if_neg hr5, if_neg hx, b1, hk]
    simp only [Option.bind_some]
    rw [if_neg hx]
    exact ⟨0, σ2, rfl, Or.inr ⟨by decide, rfl, b2'⟩⟩
  by_cases k2 : a.k = 2
  · rw [if_pos (by rw [v1]; exact f7.mpr k2), v3, v4, M_register_eq s7 (by omega) (by omega) v9, ← (hTF.2.2.2 k2).1]
    simp only [cr, Option.bind_some]
    by_cases y : 0 ≤ regR a.nm
    · have ek : tkR (a :: r) = (0, regR a.nm, r) := by
        show (if _ then _ else _) = _
        rw [if_neg (by simp [k0, k1]), if_pos ⟨k2, y⟩]
      rw [v1, if_neg hr0, if_neg hr5, if_pos y, if_pos y, ek]
      exact ⟨_, σ1, rfl, Or.inl ⟨rfl, rfl, ⟨a.e, er.symm, s3, v9, v2, s4, s5⟩⟩⟩
    · exact bad3 _ y (by show (if _ then _ else _) = _; rw [if_neg (by simp [k0, k1]), if_neg (fun z => y z.2)])
  · rw [if_neg (by rw [v1]; exact fun z => k2 (f7.mp z))]
    exact bad3 _ (by decide) (by show (if _ then _ else _) = _; rw [if_neg (by simp [k0, k1]), if_neg (fun z => k2 z.1)])
theorem FS_taken (C : Cx N X σ0 Λ ln cur start) {F : Int32} {σ : MS} (hF : F ≠ 0) (h : FS X σ0 F σ) : RR (M_taken N σ) (fun _ σ' => FS X σ0 F σ') := by
  have hN := C.1
  obtain ⟨hR, ⟨q, hq, h9⟩, h14⟩ := h
  have hs := C.2.1.small
  obtain ⟨a, r, hl⟩ := lexS_ne X q
  obtain ⟨σ1, s1, s2, s3⟩ := M_scanA (N := N) (hR.tx C.2.1) (by omega) hq h9 hl
  have h1 : FS X σ0 F σ1 := ⟨s2.fr hR, s2.pos, by rw [s2.1 14 (by decide) (by decide) (by decide) (by decide) (by decide)]; exact h14⟩
  have fin : ∀ x : Int32, RR (M_taken_28 N x σ1) (fun _ σ' => FS X σ0 F σ') := by
    intro x
    unfold M_taken_28 M_taken_44 M_taken_61 M_taken_70
    have e : ∀ σ2, FS X σ0 F σ2 → RR (if 0 ≤ x then some (x, σ2) else some (0, σ2)) (fun _ σ' => FS X σ0 F σ') := fun σ2 h2 => RR_if (fun _ => RR_ret h2) (fun _ => RR_ret h2)
    exact RR_if (fun _ => RR_then (FS_blame hF h1) (fun _ σ2 h2 => e σ2 h2)) (fun _ => RR_if (fun _ => RR_then (FS_blame hF h1) (fun _ σ2 h2 => e σ2 h2)) (fun _ => RR_if (fun _ => e σ1 h1) (fun _ => RR_then (FS_blame hF h1) (fun _ σ2 h2 => e σ2 h2))))
  unfold M_taken
  rw [s1]
  show RR (if σ1.1 10 = 1 then _ else _) _
  refine RR_if (fun t1 => ?_) (fun _ => fin _)
  have k2 : a.k ≠ 0 ∧ a.k ≠ 1 := by
    constructor
    · intro k0; rw [(s2.2.2.1 k0).1] at t1; exact absurd t1 (by decide)
    · intro k1; rw [(s2.2.2.2.1 k1).1] at t1; exact absurd t1 (by decide)
  obtain ⟨v1, v2, v3, v4, v5, v6, v7, v8, v9, -⟩ := s2.2.2.2.2 k2.1 k2.2
  rw [v3, v4]
  exact RR_cr (M_register_eq (h1.1.tx C.2.1) (by omega) (by omega) v9) (fin _)
end
