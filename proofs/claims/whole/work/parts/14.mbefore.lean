abbrev cM_before : ByteArray := prog_14_method_95_code
def yM_before : MethodName := ⟨RM, "before", "(I)I"⟩
abbrev rm_before : Room := { frames := 2, cells := 0, slots := 0, locals := 42 }
theorem dM_before_0 : decode cM_before 0 = .ok (.aload_n 0, 1) := by decide +kernel
theorem dM_before_1 : decode cM_before 1 = .ok (.iconst 0, 1) := by decide +kernel
theorem dM_before_2 : decode cM_before 2 = .ok (.putfield 348, 3) := by decide +kernel
theorem dM_before_5 : decode cM_before 5 = .ok (.iconst (-1), 1) := by decide +kernel
theorem dM_before_6 : decode cM_before 6 = .ok (.istore_n 2, 1) := by decide +kernel
theorem dM_before_7 : decode cM_before 7 = .ok (.iconst 0, 1) := by decide +kernel
theorem dM_before_8 : decode cM_before 8 = .ok (.istore_n 3, 1) := by decide +kernel
theorem dM_before_9 : decode cM_before 9 = .ok (.iconst 0, 1) := by decide +kernel
theorem dM_before_10 : decode cM_before 10 = .ok (.istore 4, 2) := by decide +kernel
theorem dM_before_12 : decode cM_before 12 = .ok (.iconst 0, 1) := by decide +kernel
theorem dM_before_13 : decode cM_before 13 = .ok (.istore 5, 2) := by decide +kernel
theorem dM_before_15 : decode cM_before 15 = .ok (.iload 5, 2) := by decide +kernel
theorem dM_before_17 : decode cM_before 17 = .ok (.aload_n 0, 1) := by decide +kernel
theorem dM_before_18 : decode cM_before 18 = .ok (.getfield 449, 3) := by decide +kernel
theorem dM_before_21 : decode cM_before 21 = .ok (.if_icmp .ge (66), 3) := by decide +kernel
theorem dM_before_24 : decode cM_before 24 = .ok (.aload_n 0, 1) := by decide +kernel
theorem dM_before_25 : decode cM_before 25 = .ok (.getfield 712, 3) := by decide +kernel
theorem dM_before_28 : decode cM_before 28 = .ok (.ifCond .eq (59), 3) := by decide +kernel
theorem dM_before_31 : decode cM_before 31 = .ok (.aload_n 0, 1) := by decide +kernel
theorem dM_before_32 : decode cM_before 32 = .ok (.getfield 339, 3) := by decide +kernel
theorem dM_before_35 : decode cM_before 35 = .ok (.iload 5, 2) := by decide +kernel
theorem dM_before_37 : decode cM_before 37 = .ok (.iaload, 1) := by decide +kernel
theorem dM_before_38 : decode cM_before 38 = .ok (.bipush 13, 2) := by decide +kernel
theorem dM_before_40 : decode cM_before 40 = .ok (.ishr, 1) := by decide +kernel
theorem dM_before_41 : decode cM_before 41 = .ok (.iconst 2, 1) := by decide +kernel
theorem dM_before_42 : decode cM_before 42 = .ok (.if_icmp .lt (6), 3) := by decide +kernel
theorem dM_before_45 : decode cM_before 45 = .ok (.goto (36), 3) := by decide +kernel
theorem dM_before_48 : decode cM_before 48 = .ok (.aload_n 0, 1) := by decide +kernel
theorem dM_before_49 : decode cM_before 49 = .ok (.iload 5, 2) := by decide +kernel
theorem dM_before_51 : decode cM_before 51 = .ok (.invokevirtual 470, 3) := by decide +kernel
theorem dM_before_54 : decode cM_before 54 = .ok (.istore 6, 2) := by decide +kernel
theorem dM_before_56 : decode cM_before 56 = .ok (.iload 6, 2) := by decide +kernel
theorem dM_before_58 : decode cM_before 58 = .ok (.iload_n 1, 1) := by decide +kernel
theorem dM_before_59 : decode cM_before 59 = .ok (.if_icmp .gt (19), 3) := by decide +kernel
theorem dM_before_62 : decode cM_before 62 = .ok (.iload_n 2, 1) := by decide +kernel
theorem dM_before_63 : decode cM_before 63 = .ok (.ifCond .lt (9), 3) := by decide +kernel
theorem dM_before_66 : decode cM_before 66 = .ok (.iload 6, 2) := by decide +kernel
theorem dM_before_68 : decode cM_before 68 = .ok (.iload_n 3, 1) := by decide +kernel
theorem dM_before_69 : decode cM_before 69 = .ok (.if_icmp .lt (9), 3) := by decide +kernel
theorem dM_before_72 : decode cM_before 72 = .ok (.iload 4, 2) := by decide +kernel
theorem dM_before_74 : decode cM_before 74 = .ok (.istore_n 2, 1) := by decide +kernel
theorem dM_before_75 : decode cM_before 75 = .ok (.iload 6, 2) := by decide +kernel
theorem dM_before_77 : decode cM_before 77 = .ok (.istore_n 3, 1) := by decide +kernel
theorem dM_before_78 : decode cM_before 78 = .ok (.iinc 4 (1), 3) := by decide +kernel
theorem dM_before_81 : decode cM_before 81 = .ok (.iinc 5 (1), 3) := by decide +kernel
theorem dM_before_84 : decode cM_before 84 = .ok (.goto (-69), 3) := by decide +kernel
theorem dM_before_87 : decode cM_before 87 = .ok (.iload_n 2, 1) := by decide +kernel
theorem dM_before_88 : decode cM_before 88 = .ok (.ireturn, 1) := by decide +kernel
section
variable {p : Program} {l : Launch} {e : Env} {s : State} {m : MethodId} {args : Array Value} {below : List Frame} {meth : Method} {c : Code} {D : va_G} {dA : Nat → ClassId} {h : Nat → Nat} {A : Nat → Prop}
def M_before_87 (N : Nat) (x2 : Int32) (σ : MS) : Option (Int32 × MS) :=
  some (x2, σ)
set_option maxHeartbeats 4000000 in
set_option maxRecDepth 100000 in
theorem bM_before_87 (N : Nat)  {r : Int32} {σ' : MS} (C : CxM p s m args meth c cM_before 7 (some .int) D dA A) (x2 : Int32) (σ : MS) (hM : M_before_87 N  x2 σ = some (r, σ')) (H : Heap) (locs : List Loc) (hW : WdM D dA h A s σ H locs) (ls : Array Slot) (hl : lv_has ls 7 [(2, .int x2)]) : W p l e rm_before s m args below meth c H locs 0 0 (MQ below (QM D dA h A σ' (some (.int r))) args s 0 0 A) (F0 m 87 ls []) := by
  have hx := C.1.1
  have hb := C.1.2.1
  have hown := C.1.2.2.2.2.1
  have hT := C.1.2.2.2.2.2.1
  unfold M_before_87 at hM
  refine lv_iload_n (pc := 87) hx hb dM_before_87 rfl (lv_at hl 0 rfl) ?_
  obtain ⟨rfl, rfl⟩ := sm_p hM
  exact x_retMi (pc := 88) C rfl hW dM_before_88
def M_before_81 (N : Nat) (rec15 : Int32 → Int32 → Int32 → Int32 → Int32 → MS → Option (Int32 × MS)) (x1 : Int32) (x2 : Int32) (x3 : Int32) (x4 : Int32) (x5 : Int32) (σ : MS) : Option (Int32 × MS) :=
  rec15 x1 x2 x3 x4 (x5 + (1 : Int32)) σ
set_option maxHeartbeats 4000000 in
set_option maxRecDepth 100000 in
theorem bM_before_81 (N : Nat) (rec15 : Int32 → Int32 → Int32 → Int32 → Int32 → MS → Option (Int32 × MS)) {r : Int32} {σ' : MS} (C : CxM p s m args meth c cM_before 7 (some .int) D dA A) (hrec15 : ∀ (x1 : Int32) (x2 : Int32) (x3 : Int32) (x4 : Int32) (x5 : Int32) (σ : MS), rec15 x1 x2 x3 x4 x5 σ = some (r, σ') → ∀ (H : Heap) (locs : List Loc), WdM D dA h A s σ H locs → ∀ (ls : Array Slot), lv_has ls 7 [(0, .ref (h 0)), (1, .int x1), (2, .int x2), (3, .int x3), (4, .int x4), (5, .int x5)] → W p l e rm_before s m args below meth c H locs 0 0 (MQ below (QM D dA h A σ' (some (.int r))) args s 0 0 A) (F0 m 15 ls [])) (x1 : Int32) (x2 : Int32) (x3 : Int32) (x4 : Int32) (x5 : Int32) (σ : MS) (hM : M_before_81 N rec15 x1 x2 x3 x4 x5 σ = some (r, σ')) (H : Heap) (locs : List Loc) (hW : WdM D dA h A s σ H locs) (ls : Array Slot) (hl : lv_has ls 7 [(0, .ref (h 0)), (1, .int x1), (2, .int x2), (3, .int x3), (4, .int x4), (5, .int x5)]) : W p l e rm_before s m args below meth c H locs 0 0 (MQ below (QM D dA h A σ' (some (.int r))) args s 0 0 A) (F0 m 81 ls []) := by
  have hx := C.1.1
  have hb := C.1.2.1
  have hown := C.1.2.2.2.2.1
  have hT := C.1.2.2.2.2.2.1
  unfold M_before_81 at hM
  refine lv_iinc (pc := 81) (v := x5 + (1 : Int32)) (lv' := [(5, .int (x5 + (1 : Int32))), (0, .ref (h 0)), (1, .int x1), (2, .int x2), (3, .int x3), (4, .int x4)]) hx hb dM_before_81 hl (k := 5) rfl rfl (by decide) rfl (fun ls hl => ?_)
  refine lv_goto (pc := 84) (tgt := 15) hx hb dM_before_84 (by decide) ?_
  exact hrec15 _ _ _ _ _ _ hM _ _ hW _ (lv_sub hl [1, 2, 3, 4, 5, 0] rfl)
def M_before_78 (N : Nat) (rec15 : Int32 → Int32 → Int32 → Int32 → Int32 → MS → Option (Int32 × MS)) (x1 : Int32) (x2 : Int32) (x3 : Int32) (x4 : Int32) (x5 : Int32) (σ : MS) : Option (Int32 × MS) :=
  M_before_81 N rec15 x1 x2 x3 (x4 + (1 : Int32)) x5 σ
set_option maxHeartbeats 4000000 in
set_option maxRecDepth 100000 in
theorem bM_before_78 (N : Nat) (rec15 : Int32 → Int32 → Int32 → Int32 → Int32 → MS → Option (Int32 × MS)) {r : Int32} {σ' : MS} (C : CxM p s m args meth c cM_before 7 (some .int) D dA A) (hrec15 : ∀ (x1 : Int32) (x2 : Int32) (x3 : Int32) (x4 : Int32) (x5 : Int32) (σ : MS), rec15 x1 x2 x3 x4 x5 σ = some (r, σ') → ∀ (H : Heap) (locs : List Loc), WdM D dA h A s σ H locs → ∀ (ls : Array Slot), lv_has ls 7 [(0, .ref (h 0)), (1, .int x1), (2, .int x2), (3, .int x3), (4, .int x4), (5, .int x5)] → W p l e rm_before s m args below meth c H locs 0 0 (MQ below (QM D dA h A σ' (some (.int r))) args s 0 0 A) (F0 m 15 ls [])) (x1 : Int32) (x2 : Int32) (x3 : Int32) (x4 : Int32) (x5 : Int32) (σ : MS) (hM : M_before_78 N rec15 x1 x2 x3 x4 x5 σ = some (r, σ')) (H : Heap) (locs : List Loc) (hW : WdM D dA h A s σ H locs) (ls : Array Slot) (hl : lv_has ls 7 [(0, .ref (h 0)), (1, .int x1), (2, .int x2), (3, .int x3), (4, .int x4), (5, .int x5)]) : W p l e rm_before s m args below meth c H locs 0 0 (MQ below (QM D dA h A σ' (some (.int r))) args s 0 0 A) (F0 m 78 ls []) := by
  have hx := C.1.1
  have hb := C.1.2.1
  have hown := C.1.2.2.2.2.1
  have hT := C.1.2.2.2.2.2.1
  unfold M_before_78 at hM
  refine lv_iinc (pc := 78) (v := x4 + (1 : Int32)) (lv' := [(4, .int (x4 + (1 : Int32))), (0, .ref (h 0)), (1, .int x1), (2, .int x2), (3, .int x3), (5, .int x5)]) hx hb dM_before_78 hl (k := 4) rfl rfl (by decide) rfl (fun ls hl => ?_)
  exact bM_before_81 N rec15 C hrec15 _ _ _ _ _ _ hM _ _ hW _ (lv_sub hl [1, 2, 3, 4, 0, 5] rfl)
def M_before_72 (N : Nat) (rec15 : Int32 → Int32 → Int32 → Int32 → Int32 → MS → Option (Int32 × MS)) (x1 : Int32) (x4 : Int32) (x5 : Int32) (x6 : Int32) (σ : MS) : Option (Int32 × MS) :=
  M_before_78 N rec15 x1 x4 x6 x4 x5 σ
set_option maxHeartbeats 4000000 in
set_option maxRecDepth 100000 in
theorem bM_before_72 (N : Nat) (rec15 : Int32 → Int32 → Int32 → Int32 → Int32 → MS → Option (Int32 × MS)) {r : Int32} {σ' : MS} (C : CxM p s m args meth c cM_before 7 (some .int) D dA A) (hrec15 : ∀ (x1 : Int32) (x2 : Int32) (x3 : Int32) (x4 : Int32) (x5 : Int32) (σ : MS), rec15 x1 x2 x3 x4 x5 σ = some (r, σ') → ∀ (H : Heap) (locs : List Loc), WdM D dA h A s σ H locs → ∀ (ls : Array Slot), lv_has ls 7 [(0, .ref (h 0)), (1, .int x1), (2, .int x2), (3, .int x3), (4, .int x4), (5, .int x5)] → W p l e rm_before s m args below meth c H locs 0 0 (MQ below (QM D dA h A σ' (some (.int r))) args s 0 0 A) (F0 m 15 ls [])) (x1 : Int32) (x4 : Int32) (x5 : Int32) (x6 : Int32) (σ : MS) (hM : M_before_72 N rec15 x1 x4 x5 x6 σ = some (r, σ')) (H : Heap) (locs : List Loc) (hW : WdM D dA h A s σ H locs) (ls : Array Slot) (hl : lv_has ls 7 [(0, .ref (h 0)), (1, .int x1), (4, .int x4), (5, .int x5), (6, .int x6)]) : W p l e rm_before s m args below meth c H locs 0 0 (MQ below (QM D dA h A σ' (some (.int r))) args s 0 0 A) (F0 m 72 ls []) := by
  have hx := C.1.1
  have hb := C.1.2.1
  have hown := C.1.2.2.2.2.1
  have hT := C.1.2.2.2.2.2.1
  unfold M_before_72 at hM
  refine lv_iload (pc := 72) hx hb dM_before_72 (lv_at hl 2 rfl) ?_
  refine lv_istore_n (pc := 74) (lv' := [(2, .int x4), (0, .ref (h 0)), (1, .int x1), (4, .int x4), (5, .int x5), (6, .int x6)]) hx hb dM_before_74 rfl hl (by decide) rfl (fun ls hl => ?_)
  refine lv_iload (pc := 75) hx hb dM_before_75 (lv_at hl 5 rfl) ?_
  refine lv_istore_n (pc := 77) (lv' := [(3, .int x6), (2, .int x4), (0, .ref (h 0)), (1, .int x1), (4, .int x4), (5, .int x5), (6, .int x6)]) hx hb dM_before_77 rfl hl (by decide) rfl (fun ls hl => ?_)
  exact bM_before_78 N rec15 C hrec15 _ _ _ _ _ _ hM _ _ hW _ (lv_sub hl [2, 3, 1, 0, 4, 5] rfl)
def M_before_15 (N : Nat)  : Nat → Int32 → Int32 → Int32 → Int32 → Int32 → MS → Option (Int32 × MS)
  | 0 => fun _ _ _ _ _ _ => none
  | n + 1 => fun x1 x2 x3 x4 x5 σ => (if (σ.1 5) ≤ x5 then M_before_87 N  x2 σ else (if (σ.1 3) = 0 then M_before_87 N  x2 σ else gd (inB x5 2060) ((if ((σ.2 5 x5.toNatClampNeg) >>> ((13 : Int32) &&& 31)) < (2 : Int32) then cr (M_valueOf  x5 σ) (fun r2 => (if x1 < r2 then M_before_78 N (M_before_15 N  n) x1 x2 x3 x4 x5 σ else (if x2 < 0 then M_before_72 N (M_before_15 N  n) x1 x4 x5 r2 σ else (if r2 < x3 then M_before_78 N (M_before_15 N  n) x1 x2 x3 x4 x5 σ else M_before_72 N (M_before_15 N  n) x1 x4 x5 r2 σ)))) else M_before_81 N (M_before_15 N  n) x1 x2 x3 x4 x5 σ))))
set_option maxHeartbeats 4000000 in
set_option maxRecDepth 100000 in
theorem bM_before_15 (N : Nat)  {r : Int32} {σ' : MS} (C : CxM p s m args meth c cM_before 7 (some .int) D dA A) : ∀ (n : Nat) (x1 : Int32) (x2 : Int32) (x3 : Int32) (x4 : Int32) (x5 : Int32) (σ : MS), M_before_15 N  n x1 x2 x3 x4 x5 σ = some (r, σ') → ∀ (H : Heap) (locs : List Loc), WdM D dA h A s σ H locs → ∀ (ls : Array Slot), lv_has ls 7 [(0, .ref (h 0)), (1, .int x1), (2, .int x2), (3, .int x3), (4, .int x4), (5, .int x5)] → W p l e rm_before s m args below meth c H locs 0 0 (MQ below (QM D dA h A σ' (some (.int r))) args s 0 0 A) (F0 m 15 ls []) := by
  have hx := C.1.1
  have hb := C.1.2.1
  have hown := C.1.2.2.2.2.1
  have hT := C.1.2.2.2.2.2.1
  intro n
  induction n with
  | zero => intro x1 x2 x3 x4 x5 σ hM; cases hM
  | succ n hrec15 =>
    intro x1 x2 x3 x4 x5 σ hM H locs hW ls hl
    rw [M_before_15] at hM
    refine lv_iload (pc := 15) hx hb dM_before_15 (lv_at hl 5 rfl) ?_
    refine lv_aload_n (pc := 17) hx hb dM_before_17 rfl (lv_at hl 0 rfl) ?_
    refine gM (pc := 18) C hW 13 (by decide) q_1670 rfl rfl dM_before_18 ?_
    refine lv_icmp_ge (pc := 21) (tgt := 87) hx hb dM_before_21 (by decide) (fun hc => ?_) (fun hc => ?_)
    · replace hM := it_t hc hM
      exact bM_before_87 N  C  _ _ hM _ _ hW _ (lv_sub hl [2] rfl)
    · replace hM := it_f hc hM
      refine lv_aload_n (pc := 24) hx hb dM_before_24 rfl (lv_at hl 0 rfl) ?_
      refine gM (pc := 25) C hW 8 (by decide) q_1665 rfl rfl dM_before_25 ?_
      refine lv_if_eq (pc := 28) (tgt := 87) hx hb dM_before_28 (by decide) (fun hc => ?_) (fun hc => ?_)
      · replace hM := it_t hc hM
        exact bM_before_87 N  C  _ _ hM _ _ hW _ (lv_sub hl [2] rfl)
      · replace hM := it_f hc hM
        refine lv_aload_n (pc := 31) hx hb dM_before_31 rfl (lv_at hl 0 rfl) ?_
        refine gM (pc := 32) C hW 14 (by decide) q_1671 rfl rfl dM_before_32 ?_
        refine lv_iload (pc := 35) hx hb dM_before_35 (lv_at hl 5 rfl) ?_
        obtain ⟨hg1, hM⟩ := gd_some hM
        refine x_ldI (pc := 37) C hW 9 rfl hg1 dM_before_37 ?_
        refine lv_bipush (pc := 38) (v := 13) hx hb dM_before_38 (by decide) ?_
        refine lv_ishr (pc := 40) hx hb dM_before_40 ?_
        refine lv_iconst (pc := 41) (v := 2) hx hb dM_before_41 (by decide) ?_
        refine lv_icmp_lt (pc := 42) (tgt := 48) hx hb dM_before_42 (by decide) (fun hc => ?_) (fun hc => ?_)
        · replace hM := it_t hc hM
          refine lv_aload_n (pc := 48) hx hb dM_before_48 rfl (lv_at hl 0 rfl) ?_
          refine lv_iload (pc := 49) hx hb dM_before_49 (lv_at hl 5 rfl) ?_
          obtain ⟨r2, hr2, hM⟩ := cr_some hM
          refine x_callRi (pc := 51) C hW (kM_valueOf l D dA h  x5 _ hr2) gM_valueOf_470 ⟨rfl, by decide, by decide, by decide +kernel⟩ ⟨rfl, rfl⟩ ⟨by decide, by decide⟩ ⟨by decide, by decide⟩ (As := [.int x5]) (n := 1) rfl hl.1 rfl (Nat.le_of_ble_eq_true rfl) dM_before_51 ?_
          refine lv_istore (pc := 54) (lv' := [(6, .int r2), (0, .ref (h 0)), (1, .int x1), (2, .int x2), (3, .int x3), (4, .int x4), (5, .int x5)]) hx hb dM_before_54 hl (by decide) rfl (fun ls hl => ?_)
          refine lv_iload (pc := 56) hx hb dM_before_56 (lv_at hl 0 rfl) ?_
          refine lv_iload_n (pc := 58) hx hb dM_before_58 rfl (lv_at hl 2 rfl) ?_
          refine lv_icmp_gt (pc := 59) (tgt := 78) hx hb dM_before_59 (by decide) (fun hc => ?_) (fun hc => ?_)
          · replace hM := it_t hc hM
            exact bM_before_78 N _ C hrec15 _ _ _ _ _ _ hM _ _ hW _ (lv_sub hl [1, 2, 3, 4, 5, 6] rfl)
          · replace hM := it_f hc hM
            refine lv_iload_n (pc := 62) hx hb dM_before_62 rfl (lv_at hl 3 rfl) ?_
            refine lv_if_lt (pc := 63) (tgt := 72) hx hb dM_before_63 (by decide) (fun hc => ?_) (fun hc => ?_)
            · replace hM := it_t hc hM
              exact bM_before_72 N _ C hrec15 _ _ _ _ _ hM _ _ hW _ (lv_sub hl [1, 2, 5, 6, 0] rfl)
            · replace hM := it_f hc hM
              refine lv_iload (pc := 66) hx hb dM_before_66 (lv_at hl 0 rfl) ?_
              refine lv_iload_n (pc := 68) hx hb dM_before_68 rfl (lv_at hl 4 rfl) ?_
              refine lv_icmp_lt (pc := 69) (tgt := 78) hx hb dM_before_69 (by decide) (fun hc => ?_) (fun hc => ?_)
              · replace hM := it_t hc hM
                exact bM_before_78 N _ C hrec15 _ _ _ _ _ _ hM _ _ hW _ (lv_sub hl [1, 2, 3, 4, 5, 6] rfl)
              · replace hM := it_f hc hM
                exact bM_before_72 N _ C hrec15 _ _ _ _ _ hM _ _ hW _ (lv_sub hl [1, 2, 5, 6, 0] rfl)
        · replace hM := it_f hc hM
          refine lv_goto (pc := 45) (tgt := 81) hx hb dM_before_45 (by decide) ?_
          exact bM_before_81 N _ C hrec15 _ _ _ _ _ _ hM _ _ hW _ (lv_sub hl [0, 1, 2, 3, 4, 5] rfl)
def M_before (N : Nat) (x1 : Int32) (σ : MS) : Option (Int32 × MS) :=
  bnd (sF σ 0 (0 : Int32)) (fun σ1 => M_before_15 N  N x1 (-1 : Int32) (0 : Int32) (0 : Int32) (0 : Int32) σ1)
set_option maxHeartbeats 4000000 in
set_option maxRecDepth 100000 in
theorem bM_before_0 (N : Nat)  {r : Int32} {σ' : MS} (C : CxM p s m args meth c cM_before 7 (some .int) D dA A) (x1 : Int32) (σ : MS) (hM : M_before N  x1 σ = some (r, σ')) (H : Heap) (locs : List Loc) (hW : WdM D dA h A s σ H locs) (ls : Array Slot) (hl : lv_has ls 7 [(0, .ref (h 0)), (1, .int x1)]) : W p l e rm_before s m args below meth c H locs 0 0 (MQ below (QM D dA h A σ' (some (.int r))) args s 0 0 A) (F0 m 0 ls []) := by
  have hx := C.1.1
  have hb := C.1.2.1
  have hown := C.1.2.2.2.2.1
  have hT := C.1.2.2.2.2.2.1
  unfold M_before at hM
  refine lv_aload_n (pc := 0) hx hb dM_before_0 rfl (lv_at hl 0 rfl) ?_
  refine lv_iconst (pc := 1) (v := 0) hx hb dM_before_1 (by decide) ?_
  refine pM (pc := 2) (ty := .int) C hW 3 0 (by decide) q_1660 rfl rfl (by decide +kernel) rfl rfl (st_thrown dA h _ _) dM_before_2 (fun H locs hW => ?_)
  obtain ⟨σ1, eσ1, hM⟩ := bnd_some hM
  rw [← eσ1] at hW
  refine lv_iconst (pc := 5) (v := -1) hx hb dM_before_5 (by decide) ?_
  refine lv_istore_n (pc := 6) (lv' := [(2, .int (-1 : Int32)), (0, .ref (h 0)), (1, .int x1)]) hx hb dM_before_6 rfl hl (by decide) rfl (fun ls hl => ?_)
  refine lv_iconst (pc := 7) (v := 0) hx hb dM_before_7 (by decide) ?_
  refine lv_istore_n (pc := 8) (lv' := [(3, .int (0 : Int32)), (2, .int (-1 : Int32)), (0, .ref (h 0)), (1, .int x1)]) hx hb dM_before_8 rfl hl (by decide) rfl (fun ls hl => ?_)
  refine lv_iconst (pc := 9) (v := 0) hx hb dM_before_9 (by decide) ?_
  refine lv_istore (pc := 10) (lv' := [(4, .int (0 : Int32)), (3, .int (0 : Int32)), (2, .int (-1 : Int32)), (0, .ref (h 0)), (1, .int x1)]) hx hb dM_before_10 hl (by decide) rfl (fun ls hl => ?_)
  refine lv_iconst (pc := 12) (v := 0) hx hb dM_before_12 (by decide) ?_
  refine lv_istore (pc := 13) (lv' := [(5, .int (0 : Int32)), (4, .int (0 : Int32)), (3, .int (0 : Int32)), (2, .int (-1 : Int32)), (0, .ref (h 0)), (1, .int x1)]) hx hb dM_before_13 hl (by decide) rfl (fun ls hl => ?_)
  exact bM_before_15 N  C  N _ _ _ _ _ _ hM _ _ hW _ (lv_sub hl [4, 5, 3, 2, 1, 0] rfl)
theorem kM_before (l : Launch) (D : va_G) (dA : Nat → ClassId) (h : Nat → Nat) (N : Nat) (x1 : Int32) (σ : MS) {r : Int32} {σ' : MS} (hM : M_before N x1 σ = some (r, σ')) : KM l D dA yM_before cM_before 7 (some .int) rm_before h σ [.int x1] (some (.int r)) σ' := x_enterM rfl (Nat.le_of_ble_eq_true rfl) (fun p e s m args below meth c A C hW ls hl => bM_before_0 N C x1 σ hM s.heap [] hW ls hl)
end
