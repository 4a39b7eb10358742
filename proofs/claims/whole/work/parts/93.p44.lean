/-! ===== READ: a whole statement ===== -/
def opO (nm : List Int32) : Option OD := (opk nm).map (fun x => od (M_shapes x.1) (M_patterns x.1 ||| x.2))
theorem or_0 (w : Int32) : w ||| 0 = w := Int32.or_zero
theorem opk_PT {nm : List Int32} {k : Nat} {o : Int32} (h : opk nm = some (k, o)) (hk : k < 128) : PTb (M_shapes k) (M_patterns k ||| o) = true := by
  obtain ⟨t1, t2⟩ := PT_tbl k hk
  unfold opk at h
  cases hn : nmd (pk nm) with
  | some k' =>
    rw [hn] at h
    simp only [Option.some.injEq, Prod.mk.injEq] at h
    rw [← h.2, or_0]
    exact t1
  | none =>
    rw [hn] at h
    simp only [] at h
    split at h
    · cases h
    · split at h
      · split at h
        · rename_i h9
          simp only [Option.some.injEq, Prod.mk.injEq] at h
          rw [h.1] at h9
          refine t2 h9 o ?_
          rw [← h.2]
          split
          · decide
          · split <;> decide
        · cases h
      · cases h
theorem regT_le (mk : Int32) (ts : List AT) : (regT mk ts).1 ≤ 15 := by
  unfold regT
  split
  · exact tkR_le ts
  · split
    · decide
    · exact Nat.zero_le _
theorem shp_le : ∀ (sh : List Int32) (ts : List AT) (w q : Int32) (R : List XSt), (shp sh ts w q R).1 ≤ 15
  | [], ts, w, q, R => Nat.zero_le _
  | c :: sh, ts, w, q, R => by
    simp only [shp]
    split
    · split
      · exact shp_le sh _ _ _ _
      · show 1 ≤ 15; decide
    · split
      · split
        · exact shp_le sh _ _ _ _
        · exact regT_le _ _
      · split
        · exact shp_le sh _ _ _ _
        · show 1 ≤ 15; decide
theorem nmT_le : ∀ (n : Nat) (ts : List AT), (nmT n ts).1 ≤ 15
  | 0, ts => by show 1 ≤ 15; decide
  | n + 1, ts => by
    simp only [nmT]
    split
    · decide
    · split
      · exact Nat.zero_le _
      · split
        · decide
        · exact nmT_le n _
theorem stT_le : ∀ (n : Nat) (ts : List AT), (stT n ts).1 ≤ 15
  | 0, ts => by show 1 ≤ 15; decide
  | n + 1, ts => by
    simp only [stT]
    split
    · decide
    · split
      · exact Nat.zero_le _
      · split
        · decide
        · exact stT_le n _
theorem f1T_le (η : Int32 → AT → Int32 × Bool) (lo : AT → Bool) (low high : Int32) (ts : List AT) : (f1T η lo low high ts).1 ≤ 15 := by
  unfold f1T
  split
  · decide
  · split
    · exact fxF_le _ _ _ _ _
    · exact Nat.zero_le _
theorem ldT_le (η : Int32 → AT → Int32 × Bool) (lo : AT → Bool) (ts : List AT) : (ldT η lo ts).1 ≤ 15 := by
  unfold ldT
  split
  · exact regT_le _ _
  · split
    · decide
    · split
      · decide
      · split
        · exact fxF_le _ _ _ _ _
        · exact Nat.zero_le _
theorem eqT_le (η : Int32 → AT → Int32 × Bool) (lo : AT → Bool) (tk : List Int32 → Bool) (ts : List AT) : (eqT η lo tk ts).1 ≤ 15 := by
  unfold eqT
  split
  · decide
  · split
    · decide
    · split
      · decide
      · split
        · decide
        · split
          · exact fxF_le _ _ _ _ _
          · exact Nat.zero_le _
theorem srO_le (o : OD) (ts : List AT) : (srO o ts).1 ≤ 15 := by
  unfold srO
  split
  · split
    · exact shp_le _ _ _ _ _
    · exact shp_le _ _ _ _ _
  · split
    · split
      · exact shp_le _ _ _ _ _
      · exact shp_le _ _ _ _ _
    · exact shp_le _ _ _ _ _
theorem stm_le (η : Int32 → AT → Int32 × Bool) (lo : AT → Bool) (tk : List Int32 → Bool) (o : OD) (ts : List AT) : (stm η lo tk o ts).1 ≤ 15 := by
  unfold stm
  by_cases c1 : o.1 = 1 ∨ o.1 = 2
  · rw [if_pos c1]; exact Nat.zero_le _
  rw [if_neg c1]
  by_cases c3 : o.1 = 3
  · rw [if_pos c3]; exact eqT_le _ _ _ _
  rw [if_neg c3]
  by_cases c4 : o.1 = 4
  · rw [if_pos c4]; exact nmT_le _ _
  rw [if_neg c4]
  by_cases c5 : o.1 = 5
  · rw [if_pos c5]; exact stT_le _ _
  rw [if_neg c5]
  by_cases c6 : o.1 = 6
  · rw [if_pos c6]; exact f1T_le _ _ _ _ _
  rw [if_neg c6]
  by_cases c7 : o.1 = 7
  · rw [if_pos c7]; exact f1T_le _ _ _ _ _
  rw [if_neg c7]
  by_cases c8 : o.1 = 8
  · rw [if_pos c8]; exact ldT_le _ _ _
  rw [if_neg c8]
  exact srO_le _ _
section
variable {N : Nat} {X : List Int32} {σ0 : MS} {Λ : List Lb} {ln cur start : Nat}
theorem LBs_dfn {σ : MS} (h : LBs X σ Λ) (hX : X.length ≤ 4096) (hl : Λ.length < 2050) {p kd : Nat} (hp : p < X.length) (hk : kd ≤ 4) (v : Int32) : LBs X (dfn σ (nI p) (nI kd) v) (Λ ++ [(p, kd, v)]) := by
  obtain ⟨h1, h2, h3⟩ := h
  have ec : (σ.1 5).toNatClampNeg = Λ.length := by rw [h1, nI_clamp (by omega)]
  have e5 : nI p ||| (nI kd <<< ((13 : Int32) &&& 31)) = nI (kd * 2 ^ 13 + p) := by
    rw [nI_shl kd (k := 13) (by decide), Int32.or_comm, nI_or (k := 13) (by omega) (by omega)]
  unfold dfn
  rw [ec, e5]
  refine ⟨?_, by simp; omega, fun i hi => ?_⟩
  · rw [sF_at, h1, nI_1]; simp
  · simp only [List.length_append, List.length_cons, List.length_nil] at hi
    show _ ∧ _ ∧ (sA (sA σ 5 Λ.length (nI (kd * 2 ^ 13 + p))) 6 Λ.length v).2 5 i = _ ∧ (sA (sA σ 5 Λ.length (nI (kd * 2 ^ 13 + p))) 6 Λ.length v).2 6 i = _
    rw [sA_ne (by decide), sA_eq, sA_eq, getD_snoc]
    by_cases e : i = Λ.length
    · rw [if_pos e, e, pk_us]
      refine ⟨hp, hk, rfl, ?_⟩
      exact pk_us
    · rw [if_neg e, pk_un e]
      obtain ⟨g1, g2, g3, g4⟩ := h3 i (by omega)
      refine ⟨g1, g2, g3, ?_⟩
      rw [pk_un e, sA_ne (by decide)]
      exact g4
theorem Cx_16 (C : Cx N X σ0 Λ ln cur start) (v : Int32) : Cx N X (sF σ0 16 v) Λ ln cur start := by
  obtain ⟨c1, c2, c3, c4, c5, c6, c7, c8, c9, c10⟩ := C
  exact ⟨c1, ⟨c2.1, c2.2.1, c2.2.2⟩, ⟨c3.1, c3.2.1, c3.2.2⟩, c4, c5, c6, c7, c8, c9, c10⟩
theorem Cx_23 (C : Cx N X σ0 Λ ln cur start) (v : Int32) : Cx N X (sF σ0 23 v) Λ ln cur start := by
  obtain ⟨c1, c2, c3, c4, c5, c6, c7, c8, c9, c10⟩ := C
  exact ⟨c1, ⟨c2.1, c2.2.1, c2.2.2⟩, ⟨c3.1, c3.2.1, c3.2.2⟩, c4, c5, c6, c7, c8, c9, c10⟩
theorem Cx_4 (C : Cx N X σ0 Λ ln cur start) (i : Nat) (v : Int32) : Cx N X (sA σ0 4 i v) Λ ln cur start := by
  obtain ⟨c1, c2, c3, c4, c5, c6, c7, c8, c9, c10⟩ := C
  exact ⟨c1, ⟨c2.1, c2.2.1, c2.2.2⟩, ⟨c3.1, c3.2.1, c3.2.2⟩, c4, c5, c6, c7, c8, c9, c10⟩
theorem Cx_d (C : Cx N X σ0 Λ ln cur start) (hl : Λ.length < 2050) {p kd : Nat} (hp : p < X.length) (hk : kd ≤ 4) (v : Int32) : Cx N X (dfn σ0 (nI p) (nI kd) v) (Λ ++ [(p, kd, v)]) ln cur start := by
  have hL := LBs_dfn C.2.2.1 C.2.1.small hl hp hk v
  obtain ⟨c1, c2, c3, c4, c5, c6, c7, c8, c9, c10⟩ := C
  exact ⟨c1, ⟨c2.1, c2.2.1, c2.2.2⟩, hL, c4, c5, c6, c7, c8, c9, c10⟩
/-- the labels behind a statement -/
def lbA (η : Int32 → AT → Int32 × Bool) (lo : AT → Bool) (tk : List Int32 → Bool) (o : OD) (ts : List AT) : List Lb := if o.1 = 3 then [((eqT η lo tk ts).2.1.p, 2, (eqT η lo tk ts).2.2.1)] else []
theorem eqT_p {η : Int32 → AT → Int32 × Bool} {lo : AT → Bool} {tk : List Int32 → Bool} {q : Nat} {ts : List AT} (hl : lexS X q = ts) (h : (eqT η lo tk ts).1 = 0) : (eqT η lo tk ts).2.1.p < X.length ∧ (eqT η lo tk ts).2.1.k = 2 ∧ ∃ r, ts = (eqT η lo tk ts).2.1 :: r := by
  unfold eqT at h ⊢
  cases h1 : tk1 2 ts with
  | none => rw [h1] at h; exact absurd (show (1 : Nat) = 0 from h) (by decide)
  | some x =>
    rw [h1] at h
    simp only [] at h ⊢
    split at h
    · exact absurd (show (4 : Nat) = 0 from h) (by decide)
    · rename_i ht
      rw [if_neg ht]
      split at h
      · exact absurd (show (1 : Nat) = 0 from h) (by decide)
      · split at h
        · exact absurd (show (1 : Nat) = 0 from h) (by decide)
        · split at h
          · rename_i c; exact absurd h c
          · rename_i c
            rw [if_neg c]
            obtain ⟨e1, e2⟩ := tk1_some (show tk1 2 ts = some (x.1, x.2) from h1)
            have hF := (lexS_F (hl.trans e1) (by rw [e2]; decide) (by rw [e2]; decide)).1
            exact ⟨by have := hF.2.1; have := hF.2.2.1; show x.1.p < _; omega, e2, x.2, e1⟩
def fnF (b : BR) : Nat := if b.1 ≠ 0 then b.1 else if atE b.2.2 = true then 0 else 1
def RdP (X : List Int32) (Λ : List Lb) (σ0 : MS) (ln cur start sec : Nat) (nm : List Int32) (ts : List AT) (σ : MS) : Prop := match opO nm with
  | none => FS X σ0 (fl ln 2) σ
  | some o => if fnF (stm (η0 X Λ σ0 start) (loR X Λ) (tkA X Λ) o ts) ≠ 0 then FS X (bsC (η0 X Λ σ0 start) (loR X Λ) (tkA X Λ) σ0 cur start sec o ts) (fl ln (fnF (stm (η0 X Λ σ0 start) (loR X Λ) (tkA X Λ) o ts))) σ ∨ FS X σ0 (fl ln (fnF (stm (η0 X Λ σ0 start) (loR X Λ) (tkA X Λ) o ts))) σ
    else ∃ Bs, GR X (bsC (η0 X Λ σ0 start) (loR X Λ) (tkA X Λ) σ0 cur start sec o ts) (stm (η0 X Λ σ0 start) (loR X Λ) (tkA X Λ) o ts).2.2 Bs σ ∧ Bs.length = ilens (stm (η0 X Λ σ0 start) (loR X Λ) (tkA X Λ) o ts).2.1
theorem fin_331 (h17 : σ0.1 17 = 0) {F : Int32} {σb σ : MS} (hF : F ≠ 0) (h : FS X σb F σ) (hb : σb.1 17 = 0) : RR (M_statement_331 N σ) (fun _ σ' => FS X σb F σ') := by
  unfold M_statement_331 M_statement_351
  exact RR_y (by rw [h.1.1 17 (by decide)]; exact hb) (RR_n (by rw [h.2.2]; exact hF) (RR_ret h))
theorem fin_end {σb σ : MS} {Λ' : List Lb} (C : Cx N X σb Λ' ln cur start) (hb : σb.1 17 = 0) {ts : List AT} {Bs : List Int32} (h : GR X σb ts Bs σ) : RR (M_statement_331 N σ) (fun _ σ' => (atE ts = true ∧ GR X σb ts Bs σ') ∨ (atE ts = false ∧ FS X σb (fl ln 1) σ')) := by
  unfold M_statement_331 M_statement_351
  refine RR_y (by rw [h.f.1 17 (by decide)]; exact hb) (RR_y (by rw [h.f.1 14 (by decide)]; exact C.2.2.2.2.2.2.2.2.2) (RR_then (G_needE C h) (fun _ σ' h' => RR_ret h')))
theorem bsC_C (C : Cx N X σ0 Λ ln cur start) {lev sec kd0 q : Nat} (hp : Px σ0 cur start lev sec kd0) (hl : Λ.length < 2050) {o : OD} {ts : List AT} (hlx : lexS X q = ts) (hz : (stm (η0 X Λ σ0 start) (loR X Λ) (tkA X Λ) o ts).1 = 0) : Cx N X (bsC (η0 X Λ σ0 start) (loR X Λ) (tkA X Λ) σ0 cur start sec o ts) (Λ ++ lbA (η0 X Λ σ0 start) (loR X Λ) (tkA X Λ) o ts) ln cur start ∧ (bsC (η0 X Λ σ0 start) (loR X Λ) (tkA X Λ) σ0 cur start sec o ts).1 17 = σ0.1 17 := by
  have hs := C.2.2.2.2.2.2.2.2.1
  obtain ⟨p1, p2, p3, p4, p5⟩ := hp
  unfold bsC lbA
  unfold stm at hz
  by_cases c1 : o.1 = 1 ∨ o.1 = 2
  · rw [if_pos c1, if_neg (by rcases c1 with e | e <;> rw [e] <;> decide), List.append_nil]
    exact ⟨Cx_16 C _, rfl⟩
  rw [if_neg c1] at hz ⊢
  by_cases c3 : o.1 = 3
  · rw [if_pos c3] at hz ⊢
    rw [if_pos c3]
    obtain ⟨e1, e2, e3⟩ := eqT_p hlx hz
    exact ⟨Cx_d C hl e1 (by decide) _, rfl⟩
  rw [if_neg c3, if_neg c3, List.append_nil]
  by_cases c4 : o.1 = 4
  · rw [if_pos c4]; exact ⟨C, rfl⟩
  rw [if_neg c4]
  by_cases c5 : o.1 = 5
  · rw [if_pos c5]; exact ⟨C, rfl⟩
  rw [if_neg c5]
  by_cases c6 : o.1 = 6
  · rw [if_pos c6]; exact ⟨C, rfl⟩
  rw [if_neg c6]
  by_cases c7 : o.1 = 7
  · rw [if_pos c7]; exact ⟨Cx_4 C _ _, rfl⟩
  rw [if_neg c7]
  by_cases c8 : o.1 = 8
  · rw [if_pos c8]; exact ⟨C, rfl⟩
  rw [if_neg c8]
  by_cases cJ : isJ (srO o ts).2.2.1 = true
  · rw [if_pos cJ]
    refine ⟨Cx_23 (Cx_pm C ?_) _, rfl⟩
    refine pl_start hs ?_ p3 ?_
    · unfold LvR; split <;> decide
    · unfold kdO; split
      · decide
      · split <;> decide
  · rw [if_neg cJ]; exact ⟨C, rfl⟩
theorem R_stm (σ : MS) (C : Cx N X (st0 σ 0 start) Λ ln cur start) {sec : Nat} (hp : Px (st0 σ 0 start) cur start 0 sec 0) (hst : start ≤ X.length) (hΛ : Λ.length < 2050) {a : AT} {r : List AT} (hl : lexS X start = a :: r) (hk : a.k = 2) : RR (M_statement N (nI start) 0 σ) (fun _ σ' => RdP X Λ (st0 σ 0 start) ln cur start sec a.nm r σ') := by
  have h17 : (st0 σ 0 start).1 17 = 0 := rfl
  have hX := C.2.1.small
  refine M_stm σ C hst hl hk (fun ho σ1 h1 => ?_) (fun k o ho hk' σ1 hG => ?_)
  · unfold RdP opO
    rw [ho]
    exact h1
  · have hPT := opk_PT ho hk'
    obtain ⟨ok1, ok2⟩ := od_ok (M_shapes k) (M_patterns k ||| o)
    obtain ⟨q, hlx, hg⟩ := id hG
    have hlen : r.length ≤ 4098 := by
      have := lexS_len X q
      rw [hlx] at this
      omega
    have eop : opO a.nm = some (od (M_shapes k) (M_patterns k ||| o)) := by unfold opO; rw [ho]; rfl
    refine bd_all C hPT hG hp hlen ⟨fun _ _ z => absurd h17 z, fun _ _ z => absurd h17 z⟩ (fun σ' hB => ?_)
    have hP := R_pre h17 hp ok1 ok2 (od5 _ _) hB
    unfold RdP
    rw [eop]
    simp only []
    generalize od (M_shapes k) (M_patterns k ||| o) = od1 at hP ok1 ok2
    unfold PreR at hP
    by_cases hz : (stm (η0 X Λ (st0 σ 0 start) start) (loR X Λ) (tkA X Λ) od1 r).1 ≠ 0
    · rw [if_pos hz] at hP
      have ef : fnF (stm (η0 X Λ (st0 σ 0 start) start) (loR X Λ) (tkA X Λ) od1 r) = (stm (η0 X Λ (st0 σ 0 start) start) (loR X Λ) (tkA X Λ) od1 r).1 := by unfold fnF; rw [if_pos hz]
      have hle : (stm (η0 X Λ (st0 σ 0 start) start) (loR X Λ) (tkA X Λ) od1 r).1 ≤ 15 := stm_le _ _ _ _ _
      refine RR_imp (fin_331 h17 (fl_ne0 C ⟨by omega, hle⟩) hP h17) (fun _ σ2 h2 => ?_)
      rw [ef, if_pos hz]
      exact Or.inr h2
    · rw [if_neg hz] at hP
      have hz0 := Decidable.not_not.mp hz
      obtain ⟨Bs, b1, b2'⟩ := hP
      obtain ⟨C2, h172⟩ := bsC_C C hp hΛ hlx hz0
      refine RR_imp (fin_end C2 (h172.trans h17) b1) (fun _ σ2 h2 => ?_)
      rcases h2 with ⟨e1, e2⟩ | ⟨e1, e2⟩
      · have ef : fnF (stm (η0 X Λ (st0 σ 0 start) start) (loR X Λ) (tkA X Λ) od1 r) = 0 := by unfold fnF; rw [if_neg hz, if_pos e1]
        rw [ef, if_neg (fun z => z rfl)]
        exact ⟨Bs, e2, b2'⟩
      · have ef : fnF (stm (η0 X Λ (st0 σ 0 start) start) (loR X Λ) (tkA X Λ) od1 r) = 1 := by unfold fnF; rw [if_neg hz, if_neg (by rw [e1]; decide)]
        rw [ef, if_pos (by decide)]
        exact Or.inl e2
end
