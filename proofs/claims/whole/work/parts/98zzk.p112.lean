/-! ===== the law's start ===== -/
theorem INV_0 {ns0 : List (List Int32)} {op re od : List Int32} {uN : CS} (h : CNm ns0 op re od uN) (cN sN : Nat) : INVp ns0 op re od (21920 + sN) (64 * (64 + cN)) 0 (Q0 uN) (64 + cN) (21920 + sN) := by
  have hz : RowL Z64 [] := ⟨rfl, Nat.zero_le _, by decide, fun k hk => absurd hk (Nat.not_lt_zero _)⟩
  have hr : ∀ r, RowL (rg Z64 r) [] := fun r => ⟨rfl, Nat.zero_le _, by show 64 ≤ 140000; omega, fun k hk => absurd hk (Nat.not_lt_zero _)⟩
  refine ⟨⟨[], hz, ⟨rfl, by decide, fun k hk => absurd hk (Nat.not_lt_zero _), fun c hc => by cases hc⟩, Nat.zero_le _⟩, by omega, ⟨[], hz⟩, h, ⟨[], 64, rfl, rfl, Nat.zero_le _, by omega, rfl, rfl, rfl, fun k hk => absurd hk (Nat.not_lt_zero _), fun k hk => absurd hk (Nat.not_lt_zero _), fun k hk => absurd hk (Nat.not_lt_zero _)⟩, ⟨⟨[], [], [], [], ?_, ?_, ?_, ?_⟩, ⟨[], ?_⟩, rfl, ⟨Nat.zero_le _, by decide, by decide, by decide⟩, ⟨[], hr 0⟩, ⟨[], hr 1⟩, by decide, by decide⟩, Or.inl ⟨rfl, rfl⟩, by omega, by omega⟩
  · exact ⟨rfl, Nat.zero_le _, by decide, fun k hk => absurd hk (Nat.not_lt_zero _)⟩
  · exact ⟨rfl, Nat.zero_le _, by decide, fun k hk => absurd hk (Nat.not_lt_zero _)⟩
  · exact ⟨rfl, Nat.zero_le _, by decide, fun k hk => absurd hk (Nat.not_lt_zero _)⟩
  · exact ⟨rfl, Nat.zero_le _, by decide, fun k hk => absurd hk (Nat.not_lt_zero _)⟩
  · exact ⟨rfl, Nat.zero_le _, by decide, fun k hk => absurd hk (Nat.not_lt_zero _)⟩
/-- all but the names' tables -/
theorem pure_of {N : Nat} (hN : 150000 < N) {ns0 : List (List Int32)} {op re od : List Int32} (hK0 : TbK ns0 op re od) (hl0 : ns0.length < 50000) (hf0 : ns0.flatten.length < 50000) {rN : Int32} {uN : CS} {cN sN : Nat} (hi : C_Nam_init N N0s = some ((rN, uN), (cN, sN))) (hn : CNm ns0 op re od uN) (hc : cN ≤ 100000) (hs : sN ≤ 900000) : ∃ (N : Nat) (INV : Nat → LSt → Nat → Nat → Prop) (rN : Int32) (uN : CS) (cN sN : Nat), (∀ (k : Nat) (q : LSt) (cc d : Nat) (a0 a1 a2 a3 : Int32), k < 512 → INV k q cc d → ∃ (q' : LSt) (dc ds : Nat), LStep N (a0 &&& 15) a1 a2 a3 q q' dc ds ∧ INV (k + 1) q' (cc + dc) (d + ds)) ∧ (∀ (k : Nat) (q : LSt) (cc d : Nat), INV k q cc d → cc ≤ 601024 ∧ d ≤ 7293034) ∧ C_Nam_init N N0s = some ((rN, uN), (cN, sN)) ∧ INV 0 (Q0 uN) (64 + cN) (21920 + sN) :=
  ⟨N, INVp ns0 op re od (21920 + sN) (64 * (64 + cN)), rN, uN, cN, sN, INV_step hN hK0 hl0 hf0, fun k q cc d h => INV_bound h (by omega) (by omega), hi, INV_0 hn cN sN⟩
