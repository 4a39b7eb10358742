theorem cmpA_fuel : ∀ (n m : Nat) (ts : List AT) (w : Bool) (o : Nat) (S : List Int32) (R : List XSt), ts.length ≤ n → ts.length ≤ m → cmpA n ts w o S R = cmpA m ts w o S R
  | 0, m, ts, w, o, S, R, hn, hm => by
    have : ts = [] := List.eq_nil_of_length_eq_zero (by omega)
    subst this
    cases m <;> rfl
  | n + 1, 0, ts, w, o, S, R, hn, hm => by
    have : ts = [] := List.eq_nil_of_length_eq_zero (by omega)
    subst this
    rfl
  | n + 1, m + 1, [], w, o, S, R, hn, hm => rfl
  | n + 1, m + 1, a :: r, true, o, S, R, hn, hm => by
    have h1 : r.length ≤ n := by simp at hn; omega
    have h2 : r.length ≤ m := by simp at hm; omega
    simp only [cmpA]
    rw [cmpA_fuel n m r _ _ _ _ h1 h2, cmpA_fuel n m r _ _ _ _ h1 h2, cmpA_fuel n m r _ _ _ _ h1 h2, cmpA_fuel n m r _ _ _ _ h1 h2, cmpA_fuel n m r _ _ _ _ h1 h2, cmpA_fuel n m r _ _ _ _ h1 h2]
    split
    · match r, h1, h2 with
      | [], _, _ => rfl
      | [_], _, _ => rfl
      | b :: c :: r', h1, h2 =>
        show (if _ then _ else _) = (if _ then _ else _)
        rw [cmpA_fuel n m r' _ _ _ _ (by simp at h1; omega) (by simp at h2; omega)]
    · rfl
  | n + 1, m + 1, a :: r, false, o, S, R, hn, hm => by
    have h1 : r.length ≤ n := by simp at hn; omega
    have h2 : r.length ≤ m := by simp at hm; omega
    simp only [cmpA]
    rw [cmpA_fuel n m r _ _ _ _ h1 h2, cmpA_fuel n m r _ _ _ _ h1 h2]
theorem lexS_len (X : List Int32) (q : Nat) : (lexS X q).length ≤ X.length - q + 2 := by
  induction h : X.length - q using Nat.strongRecOn generalizing q with
  | _ n ih =>
    rw [lexS]
    split
    · rename_i hq
      split
      · have := ih (X.length - (q + 1)) (by omega) (q + 1) rfl
        omega
      · split
        · have := ih (X.length - (max (lend (tw X) X.length q) (q + 1))) (by omega) (max (lend (tw X) X.length q) (q + 1)) rfl
          omega
        · split
          · simp
          · rename_i a _
            split
            · have := ih (X.length - a.e) (by omega) a.e rfl
              simp only [List.length_cons]
              omega
            · simp
    · simp
/-- an expression's steps and what stands behind it -/
def cmpT (ts : List AT) : Option (List XSt × List AT) := (cmpA ts.length ts true 0 [] []).bind (fun x => if 0 < x.2.2.1 then none else some ((stl 1 x.1 x.2.1).2, x.2.2.2))
section
variable {N : Nat} {X : List Int32} {σ0 : MS} {η : Int32 → AT → Int32 × Bool} {lo : AT → Bool} {ln : Nat}
theorem expr_loop (hN : 4200 < N) (hX : X.length ≤ 4096) (hln : ln < 10000) (hl : σ0.1 15 = nI ln) (T0 : TX σ0 (tw X) X.length) (hη : ∀ a, η 3 a = (a.v, false)) (oN : OpN N X σ0 η lo) (oB : OpB N X σ0 η) (oP : OpP N X σ0) : ∀ (n : Nat) (ts : List AT) (w : Bool) (o q : Nat) (S : List Int32) (R : List XSt) (σ : MS), ts.length ≤ n → lexS X q = ts → LI X η lo σ0 σ w o q S R → XR X η lo σ0 ln (cmpA n ts w o S R) (M_expression_33 N (n + 1) (nI o) (b2 w) 1 σ) := by
  intro n
  induction n with
  | zero =>
    intro ts w o q S R σ hlen hlx h
    obtain ⟨a, r, e⟩ := lexS_ne X q
    rw [← hlx, e] at hlen
    simp at hlen
  | succ n ih =>
    intro ts w o q S R σ hlen hlx h
    obtain ⟨a, r, e⟩ := lexS_ne X q
    have e2 : ts = a :: r := hlx.symm.trans e
    subst e2
    cases w with
    | true => exact loop_want hN hX hln hl T0 hη oN oB oP ih hlen e h
    | false => exact loop_have hN hX hln hl T0 ih hlen e h
def XT (X : List Int32) (η : Int32 → AT → Int32 × Bool) (lo : AT → Bool) (σ0 : MS) (ln : Nat) (c : Option (List XSt × List AT)) (r : Option (Int32 × MS)) : Prop := match c with
  | none => XB X σ0 ln r
  | some (R, rest) => XG X η lo σ0 ln R rest r
theorem M_expr (hN : 4200 < N) (hX : X.length ≤ 4096) (hln : ln < 10000) (hl : σ0.1 15 = nI ln) (T0 : TX σ0 (tw X) X.length) (hη : ∀ a, η 3 a = (a.v, false)) (oN : OpN N X σ0 η lo) (oB : OpB N X σ0 η) (oP : OpP N X σ0) {q : Nat} (hq : q ≤ X.length) (h9 : σ0.1 9 = nI q) (h14 : σ0.1 14 = 0) {ts : List AT} (hts : lexS X q = ts) : XT X η lo σ0 ln (cmpT ts) (M_expression N σ0) := by
  have hlen : ts.length ≤ 4098 := by
    have := lexS_len X q
    rw [hts] at this
    omega
  obtain ⟨n, rfl⟩ : ∃ n, N = n + 1 := ⟨N - 1, by omega⟩
  have hL : LI X η lo σ0 (sF (sF (sF (sF (sF σ0 27 0) 28 4100) 24 0) 25 0) 26 0) true 0 q [] [] := by
    refine ⟨hq, h9, ⟨?_, fun _ _ => rfl⟩, h14, trivial, rfl, Nat.zero_le _, false, false, rfl, rfl, rfl, ?_⟩
    · intro j _ a b c d e
      rw [sF_ne _ _ c, sF_ne _ _ b, sF_ne _ _ a, sF_ne _ _ e, sF_ne _ _ d]
    · rw [if_pos rfl]
      exact ⟨[], ⟨rfl, rfl, by decide, fun i hi => absurd hi (Nat.not_lt_zero _), fun i hi => absurd hi (Nat.not_lt_zero _)⟩, rfl, rfl⟩
  have key := expr_loop hN hX hln hl T0 hη oN oB oP n ts true 0 q [] [] _ (by omega) hts hL
  have e1 : M_expression (n + 1) σ0 = M_expression_33 (n + 1) (n + 1) (nI 0) (b2 true) 1 (sF (sF (sF (sF (sF σ0 27 0) 28 4100) 24 0) 25 0) 26 0) := rfl
  rw [e1]
  unfold cmpT
  rw [cmpA_fuel ts.length n ts true 0 [] [] (Nat.le_refl _) (by omega)]
  cases hc : cmpA n ts true 0 [] [] with
  | none =>
    rw [hc] at key
    exact key
  | some x =>
    rw [hc] at key
    obtain ⟨S1, R1, o1, rest⟩ := x
    have key' : (if 0 < o1 then XB X σ0 ln _ else XG X η lo σ0 ln (stl 1 S1 R1).2 rest _) := key
    show XT X η lo σ0 ln (if 0 < o1 then none else some ((stl 1 S1 R1).2, rest)) _
    by_cases ho : 0 < o1
    · rw [if_pos ho] at key' ⊢
      exact key'
    · rw [if_neg ho] at key' ⊢
      exact key'
end
