/-! ===== the class's parser: shapes ===== -/
abbrev siS (s : SR) : List AI := sI s
def Gd (ns : List (List Int32)) (nr : Nat → Nat) (Y K V : List Int32) (b ln sec : Nat) (its : List AI) (kb : Nat) (sP sI sF' sP' sI' : CS) : Prop := ∃ K2 V2 S' Z', FR4 sF' (K ++ K2) (V ++ V2) S' Z' ∧ K2.length = V2.length ∧ (∀ j it, its[j]? = some it → ItX ns nr Y (K ++ K2) (V ++ V2) sI' (b + j) ln sec b it) ∧ sP' = cF sP 1 (nI (b + its.length)) ∧ LOk sI' (b + its.length) ∧ (∀ k, k ≤ b → sI'.2.1 k = sI.2.1 k) ∧ K2.length ≤ kb
def Bd (sP sF' sP' sI' : CS) : Prop := FVal sF' ∧ (∃ n, sP' = cF sP 1 n) ∧ LOk sI' 0
theorem LOk.z {sI : CS} {n : Nat} (h : LOk sI n) : LOk sI 0 := ⟨Nat.zero_le _, h.2⟩
theorem cF_cF (σ : CS) (j : Nat) (a b : Int32) : cF (cF σ j a) j b = cF σ j b := cF_same σ j a b
/-- where a statement begins to be read -/
def SB (b ln sec : Nat) (sP : CS) : Prop := sP.1 4 = nI ln ∧ sP.1 5 = b2 (decide (sec = 1)) ∧ sP.1 6 = nI b
theorem nI_c {x : Int32} (h : ¬ x < 0) : nI x.toNatClampNeg = x := (nI_ofc (Int32.not_lt.mp h)).symm
theorem len0_n (mk w : Int32) : nI (len0 mk w).toNatClampNeg = len0 mk w := by
  unfold len0
  split
  · rfl
  · split
    · rfl
    · split
      · split <;> rfl
      · split <;> rfl
theorem noc4 : ∀ k, k < 188 → ∀ b ∈ strB k, b ≠ 4 := by decide +kernel
theorem StpL_app {ns : List (List Int32)} {nr : Nat → Nat} : ∀ {K V K2 V2 : List Int32} {R R2 : List XSt}, StpL ns nr K V R → StpL ns nr K2 V2 R2 → StpL ns nr (K ++ K2) (V ++ V2) (R ++ R2)
  | [], [], _, _, [], _, _, h => h
  | _ :: _, _ :: _, _, _, _ :: _, _, h1, h2 => ⟨h1.1, StpL_app h1.2 h2⟩
  | [], [], _, _, _ :: _, _, h, _ => h.elim
  | [], _ :: _, _, _, _, _, h, _ => h.elim
  | _ :: _, [], _, _, _, _, h, _ => h.elim
  | _ :: _, _ :: _, _, _, [], _, h, _ => h.elim
section
variable {N : Nat} {ns : List (List Int32)} {nr : Nat → Nat} {Y so va op re od K V : List Int32} {sN sP sI sR : CS} {lo : AT → Bool} {x y b ln sec : Nat}
/-- a new item, with its steps: from f to t of the rows -/
theorem RC_item {sF sP1 sI1 : CS} {n : Nat} (hsb : SB b ln sec sP) (hp : sP1 = cF sP 1 (nI n)) (hL : LOk sI1 n) (h5 : n < 5000) (mk w len : Int32) {α τ : Type} {Q : α → τ → Nat × Nat → Prop} {k : Nat → CS × CS → Option ((α × τ) × (Nat × Nat))} (hk : ∀ sI2, (∀ j, j < 9 → sI2.2.1 (n + 1) j = (if j = 0 then nI ln else if j = 1 then b2 (decide (sec = 1)) else if j = 2 then mk else if j = 3 then w else if j = 4 then len else if j = 6 then nI b else 0)) → (∀ k, k ≠ n + 1 → sI2.2.1 k = sI1.2.1 k) → LOk sI2 (n + 1) → RC (tp sF sP sI2 x y) (k (n + 1) (cF sP 1 (nI (n + 1)), sI2)) Q) : RC (tp sF sP sI1 x y) (ct (C_Prg_add mk w len sP1 sI1) k) Q := by
  rw [tp_i]
  have hc : sP1.1 1 = nI n := by rw [hp, cF_at]
  have hb5 : isB (sP1.1 5) = true := by rw [hp]; show isB (sP.1 5) = true; rw [hsb.2.1]; exact b2_isB _
  refine RC_then (RC_padd hc hL h5 hb5 mk w len _ _) (fun r u c hu => ?_)
  obtain ⟨u1, u2⟩ := u
  obtain ⟨rfl, e1, e2, e3, e4, e5⟩ := hu
  simp only [] at e1 e2 e3 e4 e5
  rw [e3, e1, hp, cF_cF]
  rw [show ip u2 (2 * capF sF + 2 * sP.2.2 0 + x) (capF sF + sP.2.2 0 + y) = tp sF sP u2 x y from (tp_i sF sP u2 x y).symm]
  refine hk u2 (fun j hj => ?_) e4 e2
  rw [e5 j hj, hp]
  unfold nwI
  rw [show (cF sP 1 (nI n)).1 4 = sP.1 4 from rfl, show (cF sP 1 (nI n)).1 5 = sP.1 5 from rfl, show (cF sP 1 (nI n)).1 6 = sP.1 6 from rfl, hsb.1, hsb.2.1, hsb.2.2]
/-- the item's fields as the abstract item has them -/
theorem ItX_mk {sI2 sI3 : CS} {n : Nat} {mk w len f t : Int32} {K' V' : List Int32} {it : AI} (hf : ∀ j, j < 9 → sI2.2.1 (n + 1) j = (if j = 0 then nI ln else if j = 1 then b2 (decide (sec = 1)) else if j = 2 then mk else if j = 3 then w else if j = 4 then len else if j = 6 then nI b else 0)) (h3 : ∀ j, j < 7 → sI3.2.1 (n + 1) j = sI2.2.1 (n + 1) j) (h7 : sI3.2.1 (n + 1) 7 = f) (h8 : sI3.2.1 (n + 1) 8 = t) (e1 : it.1 = mk) (e2 : it.1 ≠ 3 → len = nI it.2.2.1) (e4 : it.1 = 4 → ∃ Y1 Y2, Y = Y1 ++ it.2.2.2.2 ++ [0] ++ Y2 ∧ w = nI Y1.length) (e5 : it.1 ≠ 4 → w = it.2.1) (hs : SegR ns nr K' V' f t it.2.2.2.1) : ItX ns nr Y K' V' sI3 n ln sec b it := by
  unfold ItX
  rw [h3 0 (by omega), h3 1 (by omega), h3 2 (by omega), h3 3 (by omega), h3 4 (by omega), h3 6 (by omega), hf 0 (by omega), hf 1 (by omega), hf 2 (by omega), hf 3 (by omega), hf 4 (by omega), hf 6 (by omega), h7, h8]
  exact ⟨rfl, rfl, e1.symm, fun z => e2 z, rfl, fun z => e4 z, fun z => e5 z, hs⟩
def ShP (ns : List (List Int32)) (nr : Nat → Nat) (Y K V : List Int32) (b ln sec : Nat) (sP sIc sT : CS) (n0 : Nat) (s : SR) (v : Int32) (u : CS × CS × CS × CS) : Prop :=
  TQ sT u.2.1 ∧ ((s.1 ≠ 0 ∧ v = nI s.1 ∧ Bd sP u.1 u.2.2.1 u.2.2.2 ∧ ∃ ts', TPos ns Y u.2.1 ts') ∨ (s.1 = 0 ∧ v = 0 ∧ TPos ns Y u.2.1 s.2.2.2.2 ∧ Gd ns nr Y K V b ln sec (siS s) (n0 - s.2.2.2.2.length) sP sIc u.1 u.2.2.1 u.2.2.2))
end
