/-! ===== the names that stay: registers ===== -/
def NmP (σ : CS) (L : List En) (p : List Int32) : Prop := NamL σ (L.map (fun e => e.1)) p (List.replicate L.length 0) (List.replicate L.length 0) (L.map (fun e => e.2.1)) (L.map (fun e => e.2.2.1)) (L.map (fun e => e.2.2.2))
def Ok (L : List En) : Prop := EnS L ∧ (L.map (fun e => e.1)).Nodup
theorem Ok.pre {L M : List En} (h : Ok (L ++ M)) : Ok L := by
  obtain ⟨h1, h2⟩ := h
  rw [List.map_append] at h2
  exact ⟨h1.pre, (List.nodup_append.mp h2).1⟩
theorem Ok.one {L M : List En} {e : En} (h : Ok (L ++ e :: M)) : Ok ((L ++ [e]) ++ M) := by
  rw [List.append_assoc]
  exact h
theorem xnm_d : ∀ k, k < 32 → 48 + jrem (nI k) 10 = nI (48 + k % 10) ∧ 48 + nI k / 10 = nI (48 + k / 10) ∧ (nI k < 10 ↔ k < 10) := by decide +kernel
def xnm (k : Nat) : List Int32 := if k < 10 then [120, nI (48 + k % 10)] else [120, nI (48 + k / 10), nI (48 + k % 10)]
def numL : Nat → Nat → List En
  | _, 0 => []
  | k, n + 1 => (xnm k, 0, nI k + 1, 0) :: numL (k + 1) n
def rowL : List Int32 → List Int32 → Int32 → List En
  | [], _, _ => []
  | c :: r, p, v => if c = 32 then (p, 0, v + 1, 0) :: rowL r [] (v + 1) else rowL r (p ++ [c]) v
def rowP : List Int32 → List Int32 → List Int32
  | [], p => p
  | c :: r, p => if c = 32 then rowP r [] else rowP r (p ++ [c])
section
variable {N : Nat} {σ : CS} {x y : Nat}
theorem fin_E (hN : 100000 < N) {L M : List En} {p : List Int32} {v : Int32} (h : NmP σ L p) (hok : Ok (L ++ (p, 0, v + 1, 0) :: M)) (hp : p.length ≤ 1000) : RC (np σ x y) (C_Nam_finishRegister N v σ) (fun _ u c => c = np u x y ∧ NmA u (L ++ [(p, 0, v + 1, 0)]) ∧ Nm1 σ u) :=
  RC_imp (C_finReg hN h hok.1.pre.sm hp (nd_ni (e := (p, 0, v + 1, 0)) hok.2) v) (fun _ u c hu => ⟨hu.1, NmA_snoc (e := (p, 0, v + 1, 0)) hu.2.1, hu.2.2⟩)
theorem put_E {L : List En} {p : List Int32} (h : NmP σ L p) (hs : EnS L) (hp : p.length ≤ 1000) (c : Int32) : RC (np σ x y) (C_Nam_put c σ) (fun _ u c' => c' = np u x y ∧ NmP u L (p ++ [c]) ∧ Nm1 σ u) :=
  RC_nput h c (by rw [List.length_append]; have := hs.1; omega)
theorem num_E (hN : 100000 < N) : ∀ (n k m : Nat) (L : List En) (σ : CS), k + n = 32 → n < m → NmA σ L → Ok (L ++ numL k n) → RC (np σ x y) (C_Nam_enterNumbered_2 N m (nI k) σ) (fun _ u c => c = np u x y ∧ NmA u (L ++ numL k n) ∧ Nm1 σ u) := by
  intro n
  induction n with
  | zero =>
    intro k m L σ hk hm h hok
    obtain ⟨m', rfl⟩ : ∃ m', m = m' + 1 := ⟨m - 1, by omega⟩
    rw [C_Nam_enterNumbered_2]
    have hk' : k = 32 := by omega
    subst hk'
    refine RC_y (by decide) (RC_ret ⟨rfl, ?_, Nm1.rf _⟩)
    unfold numL
    rw [List.append_nil]
    exact h
  | succ n ih =>
    intro k m L σ hk hm h hok
    obtain ⟨m', rfl⟩ : ∃ m', m = m' + 1 := ⟨m - 1, by omega⟩
    rw [C_Nam_enterNumbered_2]
    obtain ⟨d1, d2, d3⟩ := xnm_d k (by omega)
    unfold numL at hok ⊢
    refine RC_n (fun z => absurd ((nI_leI (a := 32) (by omega) (by omega)).mp z) (by omega)) ?_
    refine RC_then (put_E (p := []) h hok.1.pre (Nat.zero_le _) 120) (fun r u c hu => ?_)
    obtain ⟨rfl, u2, u3⟩ := hu
    have tail : ∀ (w : CS), NmP w L (xnm k).dropLast → Nm1 σ w → RC (np w x y) (C_Nam_enterNumbered_31 N (C_Nam_enterNumbered_2 N m') (nI k) w) (fun _ u c => c = np u x y ∧ NmA u (L ++ (xnm k, 0, nI k + 1, 0) :: numL (k + 1) n) ∧ Nm1 σ u) := by
      intro w hw h1
      unfold C_Nam_enterNumbered_31
      have hlen : (xnm k).dropLast.length ≤ 1000 := by
        unfold xnm
        split
        · show 1 ≤ 1000
          omega
        · show 2 ≤ 1000
          omega
      refine RC_gd (by decide) (RC_then (put_E hw hok.1.pre hlen _) (fun r t c ht => ?_))
      obtain ⟨rfl, t2, t3⟩ := ht
      have ex : (xnm k).dropLast ++ [48 + jrem (nI k) 10] = xnm k := by
        rw [d1]; unfold xnm; split <;> rfl
      rw [ex] at t2
      refine RC_then (fin_E hN t2 hok (by unfold xnm; split <;> (show _ ≤ 1000; simp))) (fun r s c hs => ?_)
      obtain ⟨rfl, s2, s3⟩ := hs
      rw [show nI k + 1 = nI (k + 1) from nI_add k 1] at s2 hok ⊢
      refine RC_imp (ih (k + 1) m' _ s (by omega) (by omega) s2 hok.one) (fun r z c hz => ⟨hz.1, ?_, (h1.tr t3).tr (s3.tr hz.2.2)⟩)
      have := hz.2.1
      rw [List.append_assoc] at this
      exact this
    by_cases h10 : k < 10
    · refine RC_y (d3.mpr h10) (tail u ?_ u3)
      unfold xnm
      rw [if_pos h10]
      exact u2
    · refine RC_n (fun z => h10 (d3.mp z)) (RC_gd (by decide) (RC_then (put_E u2 hok.1.pre (by decide) _) (fun r w c hw => ?_)))
      obtain ⟨rfl, w2, w3⟩ := hw
      refine tail w ?_ (u3.tr w3)
      unfold xnm
      rw [if_neg h10]
      rw [d2] at w2
      exact w2
theorem row_E (hN : 100000 < N) {k1 : Nat} (hk : k1 < 188) : ∀ (n i m : Nat) (p : List Int32) (v : Int32) (L : List En) (σ : CS), i + n = (strB k1).length → n < m → NmP σ L p → p.length ≤ i → Ok (L ++ rowL ((strB k1).drop i) p v) → RC (np σ x y) (C_Nam_enterRow_5 N m k1 v (nI i) σ) (fun _ u c => c = np u x y ∧ NmP u (L ++ rowL ((strB k1).drop i) p v) (rowP ((strB k1).drop i) p) ∧ Nm1 σ u) := by
  have hl := str_len k1 hk
  intro n
  induction n with
  | zero =>
    intro i m p v L σ hi hm h _ _
    obtain ⟨m', rfl⟩ : ∃ m', m = m' + 1 := ⟨m - 1, by omega⟩
    rw [C_Nam_enterRow_5]
    refine RC_gd (decide_eq_true hk) (RC_cr (C_slen hk) (RC_y (by rw [show i = (strB k1).length by omega]; exact Int32.le_refl _) (RC_ret ⟨rfl, ?_, Nm1.rf _⟩)))
    rw [List.drop_eq_nil_of_le (by omega)]
    unfold rowL rowP
    rw [List.append_nil]
    exact h
  | succ n ih =>
    intro i m p v L σ hi hm h hp hok
    obtain ⟨m', rfl⟩ : ∃ m', m = m' + 1 := ⟨m - 1, by omega⟩
    have hlt : i < (strB k1).length := by omega
    rw [C_Nam_enterRow_5]
    refine RC_gd (decide_eq_true hk) (RC_cr (C_slen hk) (RC_n (fun z => absurd ((nI_leI (by omega) (by omega)).mp z) (by omega)) (RC_gd (decide_eq_true hk) (RC_cr (C_schar hk (by omega)) ?_))))
    rw [List.drop_eq_getElem_cons hlt] at hok ⊢
    rw [gD_e hlt]
    unfold rowL at hok
    unfold rowL rowP
    unfold C_Nam_enterRow_46
    by_cases h32 : (strB k1)[i] = 32
    · rw [if_pos h32] at hok ⊢
      rw [if_pos h32, if_pos h32]
      refine RC_then (fin_E hN h hok (by omega)) (fun r s c hs => ?_)
      obtain ⟨rfl, s2, s3⟩ := hs
      rw [show nI i + 1 = nI (i + 1) from nI_add i 1]
      refine RC_imp (ih (i + 1) m' [] (v + 1) _ s (by omega) (by omega) s2 (Nat.zero_le _) hok.one) (fun r z c hz => ⟨hz.1, ?_, s3.tr hz.2.2⟩)
      have := hz.2.1
      rw [List.append_assoc] at this
      exact this
    · rw [if_neg h32] at hok ⊢
      rw [if_neg h32, if_neg h32]
      refine RC_then (put_E h hok.1.pre (by omega) _) (fun r s c hs => ?_)
      obtain ⟨rfl, s2, s3⟩ := hs
      rw [show nI i + 1 = nI (i + 1) from nI_add i 1]
      exact RC_imp (ih (i + 1) m' (p ++ [(strB k1)[i]]) v L s (by omega) (by omega) s2 (by rw [List.length_append]; simp only [List.length_cons, List.length_nil]; omega) hok) (fun r z c hz => ⟨hz.1, hz.2.1, s3.tr hz.2.2⟩)
/-- a name without tables -/
theorem ent_E (hN : 100000 < N) {ns : List (List Int32)} {so va op re od : List Int32} (h : NamL σ ns [] so va op re od) (hs : ns.flatten.length ≤ 20000 ∧ ns.length ≤ 20000) {k1 : Nat} (hk : k1 < 188) (hni : strB k1 ∉ ns) : RC (np σ x y) (C_Nam_enter N k1 σ) (fun v u c => c = np u x y ∧ v = nI ns.length ∧ NamL u (ns ++ [strB k1]) [] (so ++ [0]) (va ++ [0]) op re od ∧ Nm1 σ u) := by
  obtain ⟨s1, s2⟩ := hs
  have l1 := (str_len _ hk).2
  unfold C_Nam_enter C_Nam_putAll
  refine RC_then (RC_putAll (by omega) hk _ 0 N [] σ (Nat.zero_add _) (by omega) h (by simp only [List.length_nil]; omega)) (fun r u c hu => ?_)
  obtain ⟨rfl, u2, u3⟩ := hu
  rw [List.nil_append, List.drop_zero] at u2
  refine RC_then (RC_nfin u2 ⟨by rw [List.length_append]; omega, by omega⟩ (by omega) (by omega) hni) (fun r t c ht => ?_)
  obtain ⟨t1, rfl, t3, t4⟩ := ht
  exact RC_ret ⟨rfl, t1, t3, u3.tr t4⟩
end
