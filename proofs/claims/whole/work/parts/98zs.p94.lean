/-! ===== the class's encode() ===== -/
def wI (η : Int32 → AT → Int32 × Bool) (a : Int32) (i : AI) : List Int32 := if i.1 = 1 ∨ i.1 = 2 ∨ i.1 = 3 then [] else byI η a i
theorem let_eq {Y Y1 Y2 s : List Int32} (hY : Y = Y1 ++ s ++ [0] ++ Y2) (hs : ∀ c ∈ s, c &&& 255 = c) {len : Nat} (h1 : s.length ≤ len) (h2 : len ≤ s.length + 1) : (List.range' 0 len).map (fun q => Y.getD (Y1.length + q) 0) = s.map (fun c => c &&& 255) ++ List.replicate (len - s.length) 0 := by
  have hm : s.map (fun c => c &&& 255) = s := by
    conv => rhs; rw [← List.map_id s]
    exact List.map_congr_left (fun c hc => hs c hc)
  rw [hm]
  apply List.ext_getElem
  · rw [List.length_map, List.length_range', List.length_append, List.length_replicate]; omega
  · intro q q1 q2
    rw [List.length_map, List.length_range'] at q1
    rw [List.getElem_map, List.getElem_range']
    simp only [Nat.zero_add, Nat.one_mul]
    have e1 : Y.getD (Y1.length + q) 0 = (s ++ [0] ++ Y2).getD q 0 := by
      rw [hY, show Y1 ++ s ++ [0] ++ Y2 = Y1 ++ (s ++ [0] ++ Y2) by simp, gD_r (by omega)]
      congr 1; omega
    rw [e1]
    by_cases hq : q < s.length
    · rw [List.getElem_append_left hq, List.append_assoc, gD_l hq, gD_e hq]
    · rw [List.getElem_append_right (by omega), List.getElem_replicate, show q = s.length by omega, List.append_assoc]
      exact getD_mid _ _ _ _
section
variable {N : Nat} {X : List Int32} {ns : List (List Int32)} {Y K V so va op re od : List Int32} {sP sI sE sY sN sT sF : CS} {E : List Ev} {x y : Nat}
theorem C_encNum (hN : 70000 < N) {n1 at' len : Nat} (hcap : n1 < sI.2.2 0 + 1) {mk w v : Int32} (h2 : sI.2.1 n1 2 = mk) (h3 : sI.2.1 n1 3 = w) (h4 : sI.2.1 n1 4 = nI len) (hl : len ≤ 8) (hat : at' < 2 ^ 29) {l : List Int32} (hR : RowL (rg sE 0) l) : ∃ sE', C_Enc_encodeNumber N n1 v (nI at') sE sY sF sN sT sP sI = some ((if fitB mk v = true then 0 else 10), sE') ∧ EF sE sE' ∧ (∃ l', RowL (rg sE' 0) l') ∧ (fitB mk v = true → RowL (rg sE' 0) (wr l at' (wB (w ||| scat mk v) len))) := by
  unfold C_Enc_encodeNumber
  rw [gd_t (decide_eq_true hcap), h2, C_fits]
  simp only [cr, Option.bind_some]
  by_cases hf : fitB mk v = true
  · rw [hf, if_neg (by decide), gd_t (decide_eq_true hcap), gd_t (decide_eq_true hcap), C_scat]
    simp only [Option.bind_some]
    rw [gd_t (decide_eq_true hcap), h3, h4]
    obtain ⟨sE', q1, q2, q3⟩ := C_put (N := N) (sY := sY) (sF := sF) (sN := sN) (sT := sT) (sP := sP) (sI := sI) hN (w ||| scat mk v) (n := len) (by omega) (show at' < 2 ^ 30 by omega) hR
    rw [q1]
    exact ⟨sE', rfl, q3, ⟨_, q2⟩, fun _ => q2⟩
  · have hf' : fitB mk v = false := by simpa using hf
    rw [hf', if_pos (show b2 false = 0 from rfl)]
    exact ⟨sE, rfl, EF.rf _, ⟨_, hR⟩, fun z => by cases z⟩
theorem C_encJmp (hN : 70000 < N) {n1 at' L : Nat} (hL : L ≤ 2) (hcap : n1 < sI.2.2 0 + 1) {mk w off : Int32} (h2 : sI.2.1 n1 2 = mk) (h3 : sI.2.1 n1 3 = w) (h4 : sI.2.1 n1 4 = nI (2 * 2 ^ L)) (hat : at' < 2 ^ 29) {l : List Int32} (hR : RowL (rg sE 0) l) : ∃ sE', C_Enc_encodeJump N n1 off (nI at') sE sY sF sN sT sP sI = some ((if fitB (jmk mk L) (jcnt off L) = true then 0 else 10), sE') ∧ EF sE sE' ∧ (∃ l', RowL (rg sE' 0) l') ∧ (fitB (jmk mk L) (jcnt off L) = true → RowL (rg sE' 0) (wr l at' (jB mk w off L))) := by
  have h8 : (nI (2 * 2 ^ L) = 8) ↔ L = 2 := by
    rcases (show L = 0 ∨ L = 1 ∨ L = 2 by omega) with z | z | z <;> rw [z] <;> decide
  have h4' : (nI (2 * 2 ^ L) = 4) ↔ L = 1 := by
    rcases (show L = 0 ∨ L = 1 ∨ L = 2 by omega) with z | z | z <;> rw [z] <;> decide
  have body : ∃ sE', C_Enc_encodeJump_29 N n1 (nI at') (jmk mk L) (jcnt off L) sE sY sF sN sT sP sI = some ((if fitB (jmk mk L) (jcnt off L) = true then 0 else 10), sE') ∧ EF sE sE' ∧ (∃ l', RowL (rg sE' 0) l') ∧ (fitB (jmk mk L) (jcnt off L) = true → RowL (rg sE' 0) (wr l at' (jB mk w off L))) := by
    unfold C_Enc_encodeJump_29 C_Enc_encodeJump_137
    rw [C_fits]
    simp only [cr, Option.bind_some]
    by_cases hf : fitB (jmk mk L) (jcnt off L) = true
    · rw [hf, if_neg (by decide), C_scat]
      simp only [Option.bind_some]
      rw [gd_t (decide_eq_true hcap), h4]
      by_cases hL2 : L = 2
      · rw [if_pos (h8.mpr hL2), gd_t (decide_eq_true hcap), C_scat, h3]
        simp only [Option.bind_some]
        obtain ⟨sE1, q1, q2, q3⟩ := C_put (N := N) (sY := sY) (sF := sF) (sN := sN) (sT := sT) (sP := sP) (sI := sI) hN ((w ^^^ 4096) ||| scat 116 8) (n := 4) (by omega) (show at' < 2 ^ 30 by omega) hR
        have q1' : C_Enc_put N (nI at') ((w ^^^ 4096) ||| scat 116 8) 4 sE sY sF sN sT sP sI = some (0, sE1) := q1
        rw [q1']
        simp only [cl, Option.bind_some]
        obtain ⟨sE2, r1, r2, r3⟩ := C_put (N := N) (sY := sY) (sF := sF) (sN := sN) (sT := sT) (sP := sP) (sI := sI) hN (111 ||| scat (jmk mk L) (jcnt off L)) (n := 4) (by omega) (show at' + 4 < 2 ^ 30 by omega) q2
        have r1' : C_Enc_put N (nI at' + 4) (111 ||| scat (jmk mk L) (jcnt off L)) 4 sE1 sY sF sN sT sP sI = some (0, sE2) := by
          rw [show nI at' + 4 = nI (at' + 4) from nI_add at' 4]; exact r1
        rw [r1']
        have hjB : jB mk w off L = wB ((w ^^^ 4096) ||| scat 116 8) 4 ++ wB (111 ||| scat (jmk mk L) (jcnt off L)) 4 := by
          unfold jB jcnt
          rw [if_pos hL2, if_pos hL2]
        refine ⟨sE2, rfl, q3.tr r3, ⟨_, r2⟩, fun _ => ?_⟩
        rw [hjB, ← wr_app, wB_len]
        exact r2
      · rw [if_neg (fun z => hL2 (h8.mp z)), gd_t (decide_eq_true hcap)]
        by_cases hL1 : L = 1
        · rw [if_pos (h4'.mpr hL1), gd_t (decide_eq_true hcap), h3]
          obtain ⟨sE1, q1, q2, q3⟩ := C_put (N := N) (sY := sY) (sF := sF) (sN := sN) (sT := sT) (sP := sP) (sI := sI) hN (w ||| scat (jmk mk L) (jcnt off L)) (n := 4) (by omega) (show at' < 2 ^ 30 by omega) hR
          have q1' : C_Enc_put N (nI at') (w ||| scat (jmk mk L) (jcnt off L)) 4 sE sY sF sN sT sP sI = some (0, sE1) := q1
          rw [q1']
          have hjB : jB mk w off L = wB (w ||| scat (jmk mk L) (jcnt off L)) 4 := by
            unfold jB jcnt
            rw [if_neg hL2, if_pos hL1, if_neg hL2]
          exact ⟨sE1, rfl, q3, ⟨_, q2⟩, fun _ => by rw [hjB]; exact q2⟩
        · rw [if_neg (fun z => hL1 (h4'.mp z))]
          have hsw : C_Enc_shortWord n1 sE sY sF sN sT sP sI = some (shW mk w, ()) := by
            unfold C_Enc_shortWord C_Enc_shortWord_31 shW
            rw [gd_t (decide_eq_true hcap), h2, h3]
            by_cases hm : mk = 120
            · rw [if_pos hm, if_pos hm, gd_t (decide_eq_true hcap)]
              split <;> rfl
            · rw [if_neg hm, if_neg hm, gd_t (decide_eq_true hcap), gd_t (decide_eq_true hcap)]
          rw [hsw]
          simp only [cl, Option.bind_some]
          obtain ⟨sE1, q1, q2, q3⟩ := C_put (N := N) (sY := sY) (sF := sF) (sN := sN) (sT := sT) (sP := sP) (sI := sI) hN (shW mk w ||| scat (jmk mk L) (jcnt off L)) (n := 2) (by omega) (show at' < 2 ^ 30 by omega) hR
          have q1' : C_Enc_put N (nI at') (shW mk w ||| scat (jmk mk L) (jcnt off L)) 2 sE sY sF sN sT sP sI = some (0, sE1) := q1
          rw [q1']
          have hjB : jB mk w off L = wB (shW mk w ||| scat (jmk mk L) (jcnt off L)) 2 := by
            unfold jB jcnt
            rw [if_neg hL2, if_neg hL1, if_neg hL2]
          exact ⟨sE1, rfl, q3, ⟨_, q2⟩, fun _ => by rw [hjB]; exact q2⟩
    · have hf' : fitB (jmk mk L) (jcnt off L) = false := by simpa using hf
      rw [hf', if_pos (show b2 false = 0 from rfl)]
      exact ⟨sE, rfl, EF.rf _, ⟨_, hR⟩, fun z => by cases z⟩
  unfold C_Enc_encodeJump
  rw [gd_t (decide_eq_true hcap), gd_t (decide_eq_true hcap), h2, h4, C_mkF]
  simp only [cr, Option.bind_some]
  rw [gd_t (decide_eq_true hcap)]
  by_cases hL2 : L = 2
  · rw [if_pos (h8.mpr hL2)]
    have : jcnt off L = off - 4 := by unfold jcnt; rw [if_pos hL2]
    rw [← this]
    exact body
  · rw [if_neg (fun z => hL2 (h8.mp z))]
    have : jcnt off L = off := by unfold jcnt; rw [if_neg hL2]
    rw [this] at body ⊢
    exact body
def EnP (K V S : List Int32) (x y : Nat) (sE : CS) (l : List Int32) (at' f : Nat) (bs : List Int32) (v : Int32) (u : CS × CS) (c : Nat × Nat) : Prop := c = fp u.2 x y ∧ (∃ Z', FR4 u.2 K V S Z') ∧ v = nI f ∧ EF sE u.1 ∧ (∃ l', RowL (rg u.1 0) l') ∧ (f = 0 → RowL (rg u.1 0) (wr l at' bs))
theorem ckF_z {m d : Bool} (h : nI (mdF m d) = 0) (f : Bool) : ckF m d f = if f = true then 0 else 10 := by
  obtain ⟨rfl, rfl⟩ := mdF_z h
  rfl
theorem C_encIt (hN : 70000 < N) (h : PRG X ns Y K V so va E sP sI) (hV : ∀ c ∈ X, okT c) (hNL : NmS sN ns so va op re od) (h20 : sP.2.2 20 = 10) (hK : K.length ≤ 60000) {S Z : List Int32} (hF : FR4 sF K V S Z) (hY : RowL sY Y) {E1 E2 : List Ev} {e : Ev} (hE : E = E1 ++ e :: E2) (h5 : e.1 = 5) {j : Nat} {it : AI} (hj : e.2.2.2.2.2[j]? = some it) {at' : Nat} (hat : at' + it.2.2.1 < 2 ^ 29) (ha : ¬ pln it.1 → nI at' = aE E (lay (0, 0) E1) e) {l : List Int32} (hR : RowL (rg sE 0) l) :
    RC (fp sF x y) (C_Enc_encode N (cI E1 + j + 1) (nI at') sE sY sF sN sT sP sI) (EnP K V S x y sE l at' (ckI (ηE X E (lay (0, 0) E1) e) (aE E (lay (0, 0) E1) e) it) (wI (ηE X E (lay (0, 0) E1) e) (aE E (lay (0, 0) E1) e) it)) := by
  have h' := h
  obtain ⟨hX, hW, hNm, hPr, hL, hc, hPl⟩ := h
  have hcs := cI_split hE
  rw [nit_5 h5] at hcs
  have hjl := getE_lt hj
  have hcap : cI E1 + j + 1 < sI.2.2 0 + 1 := by have := hL.1; omega
  have hmem := List.mem_of_getElem? hj
  obtain ⟨v4, v1, v8, vn⟩ := ItV_ev hV hX hW hE h5 it hmem
  obtain ⟨i1, i2, i3, i4, i5, i6, i7, i8⟩ := (hPr.2 E1 e E2 hE).1 h5 j it hj
  have hck0 : (it.1 = 0 ∨ it.1 = 1 ∨ it.1 = 2 ∨ it.1 = 3 ∨ it.1 = 4) → ckI (ηE X E (lay (0, 0) E1) e) (aE E (lay (0, 0) E1) e) it = 0 := fun z => by unfold ckI; rw [if_pos z]
  generalize hη : ηE X E (lay (0, 0) E1) e = η at *
  generalize hA : aE E (lay (0, 0) E1) e = a at *
  unfold C_Enc_encode
  rw [i3]
  refine RC_gd (decide_eq_true hcap) ?_
  refine RC_if (fun c0 => ?_) (fun c0 => ?_)
  · refine RC_gd (decide_eq_true hcap) (RC_gd (decide_eq_true hcap) ?_)
    rw [i7 (by rw [c0]; decide), i4 (by rw [c0]; decide)]
    obtain ⟨sE', q1, q2, q3⟩ := C_put (N := N) (sY := sY) (sF := sF) (sN := sN) (sT := sT) (sP := sP) (sI := sI) hN it.2.1 (n := it.2.2.1) (by have := v8 (Or.inl c0); omega) (show at' < 2 ^ 30 by omega) hR
    refine RC_cl q1 (RC_ret ⟨rfl, ⟨Z, hF⟩, by rw [hck0 (Or.inl c0)]; rfl, q3, ⟨_, q2⟩, fun _ => ?_⟩)
    have : wI η a it = wB it.2.1 it.2.2.1 := by
      unfold wI byI
      rw [if_neg (by rw [c0]; decide), if_pos c0]
    rw [this]
    exact q2
  have none3 : ∀ (hz : it.1 = 1 ∨ it.1 = 2 ∨ it.1 = 3), RC (fp sF x y) (C_Enc_encode_40 N sE sY sF sN sT sP sI) (EnP K V S x y sE l at' (ckI η a it) (wI η a it)) := by
    intro hz
    unfold C_Enc_encode_40
    refine RC_ret ⟨rfl, ⟨Z, hF⟩, by rw [hck0 (by rcases hz with z | z | z <;> simp [z])]; rfl, EF.rf _, ⟨_, hR⟩, fun _ => ?_⟩
    have : wI η a it = [] := by unfold wI; rw [if_pos hz]
    rw [this]
    exact hR
  refine RC_if (fun c1 => none3 (Or.inl c1)) (fun c1 => RC_if (fun c2 => none3 (Or.inr (Or.inl c2))) (fun c2 => RC_if (fun c3 => none3 (Or.inr (Or.inr c3))) (fun c3 => ?_)))
  have hn123 : ¬ (it.1 = 1 ∨ it.1 = 2 ∨ it.1 = 3) := by simp [c1, c2, c3]
  refine RC_if (fun c4 => ?_) (fun c4 => ?_)
  · obtain ⟨Y1, Y2, y1, y2⟩ := i6 c4
    obtain ⟨s1, s2, s3⟩ := v4 c4
    have h40 : it.2.2.1 ≤ 40000 := by
      have hS := (WfE_SI hX hW e (by rw [hE]; simp)).1 h5
      rcases hS with ⟨p1, p2⟩ | ⟨n, p1, p2⟩ | ⟨mk, w, lev, R, p1, p2, p3, p4⟩
      · have : it.2.2.1 ≤ ilens e.2.2.2.2.2 := by
          unfold ilens
          exact mem_sum _ _ (List.mem_map.mpr ⟨it, hmem, rfl⟩)
        omega
      · rw [p2] at hmem
        rw [List.mem_singleton.mp hmem]; exact Nat.zero_le _
      · rw [p1] at hmem
        rw [List.mem_singleton.mp hmem] at c4
        have c4' : mk = 4 := c4
        rw [c4'] at p2
        exact absurd p2 (by decide)
    have hYl : Y1.length + it.2.2.1 < 2 ^ 30 := by
      have h1 := hY.cap
      have h2 := hY.big
      rw [y1] at h1
      simp only [List.length_append, List.length_cons, List.length_nil] at h1
      omega
    obtain ⟨sE', q1, q2, q3⟩ := C_let (N := N) (sI0 := sI) (sF := sF) (sN := sN) (sT := sT) (sP := sP) hcap hY y2 (i4 (by rw [c4]; decide)) hYl (show at' + it.2.2.1 < 2 ^ 30 by omega) it.2.2.1 0 N l sE (by omega) (by omega) hR
    rw [show (0 : Int32) = nI 0 from rfl, q1]
    refine RC_ret ⟨rfl, ⟨Z, hF⟩, by rw [hck0 (by simp [c4])]; rfl, q3, ⟨_, q2⟩, fun _ => ?_⟩
    have : wI η a it = (List.range' 0 it.2.2.1).map (fun q => Y.getD (Y1.length + q) 0) := by
      unfold wI byI
      rw [if_neg hn123, if_neg c0, if_neg c2, if_neg (by simp [c1, c3]), if_pos c4, let_eq y1 s1 s3 s2]
    rw [this]
    rw [Nat.add_zero] at q2
    exact q2
  have hn4 : ¬ (it.1 = 0 ∨ it.1 = 1 ∨ it.1 = 2 ∨ it.1 = 3 ∨ it.1 = 4) := by simp [c0, c1, c2, c3, c4]
  have hRG : RG X it.2.2.2.1 := by
    rcases IX_ev hW hE h5 it hmem with z | z
    · exact absurd z hn4
    · exact z
  have hf4 : sI.2.1 (cI E1 + j + 1) 4 = nI it.2.2.1 := i4 c3
  have hf3 : sI.2.1 (cI E1 + j + 1) 3 = it.2.1 := i7 c4
  have hlen8 : it.2.2.1 ≤ 8 := by
    by_cases hp : pln it.1
    · rcases hp with z | z | z | z | z | z
      · exact absurd z c0
      · exact absurd z c1
      · exact absurd z c2
      · exact absurd z c3
      · exact absurd z c4
      · exact v8 (Or.inr z)
    · exact vn hp
  unfold C_Enc_encodeExpression
  have hev := C_evIt (x := x) (y := y) (sT := sT) hN h' ⟨fun _ _ _ => rfl, rfl⟩ hNL h20 hK hF hE h5 hj hRG
  rw [hη] at hev
  have inner : RC (fp sF x y) (gd (decide (cI E1 + j + 1 < sI.2.2 0 + 1)) (gd (decide (cI E1 + j + 1 < sI.2.2 0 + 1)) (gd (decide (cI E1 + j + 1 < sI.2.2 0 + 1)) (ct (C_Frm_evaluate N (sI.2.1 (cI E1 + j + 1) 7) (sI.2.1 (cI E1 + j + 1) 8) (sI.2.1 (cI E1 + j + 1) 6) sF sN sT sP sI) (fun r4 u5 => (if r4 = 0 then gd (decide (cI E1 + j + 1 < sI.2.2 0 + 1)) ((if (sI.2.1 (cI E1 + j + 1) 2) = 61 then gd (decide (cI E1 + j + 1 < sI.2.2 0 + 1)) (cl (C_Enc_put N (nI at') (u5.1 1) (sI.2.1 (cI E1 + j + 1) 4) sE sY u5 sN sT sP sI) (fun r14 u15 => some ((0, (u15, u5)), (0, 0)))) else (if (sI.2.1 (cI E1 + j + 1) 2) = 64 then gd (decide (cI E1 + j + 1 < sI.2.2 0 + 1)) (cl (C_Enc_putAddress N (sI.2.1 (cI E1 + j + 1) 3) ((u5.1 1) - nI at') (nI at') sE sY u5 sN sT sP sI) (fun r17 u18 => some ((0, (u18, u5)), (0, 0)))) else (if (sI.2.1 (cI E1 + j + 1) 2) = 66 then C_Enc_encodeExpression_151 N (cI E1 + j + 1) (nI at') (u5.1 1) sE sY u5 sN sT sP sI else (if (sI.2.1 (cI E1 + j + 1) 2) = 74 then C_Enc_encodeExpression_151 N (cI E1 + j + 1) (nI at') (u5.1 1) sE sY u5 sN sT sP sI else (if (sI.2.1 (cI E1 + j + 1) 2) = 106 then C_Enc_encodeExpression_151 N (cI E1 + j + 1) (nI at') (u5.1 1) sE sY u5 sN sT sP sI else (if (sI.2.1 (cI E1 + j + 1) 2) = 116 then C_Enc_encodeExpression_140 N (cI E1 + j + 1) (nI at') (u5.1 1) sE sY u5 sN sT sP sI else (if (sI.2.1 (cI E1 + j + 1) 2) = 120 then C_Enc_encodeExpression_140 N (cI E1 + j + 1) (nI at') (u5.1 1) sE sY u5 sN sT sP sI else (if (sI.2.1 (cI E1 + j + 1) 2) = 122 then C_Enc_encodeExpression_140 N (cI E1 + j + 1) (nI at') (u5.1 1) sE sY u5 sN sT sP sI else cl (C_Enc_encodeNumber N (cI E1 + j + 1) (u5.1 1) (nI at') sE sY u5 sN sT sP sI) (fun r19 u20 => some ((r19, (u20, u5)), (0, 0)))))))))))) else some ((r4, (sE, u5)), (0, 0)))))))) (EnP K V S x y sE l at' (ckI η a it) (wI η a it)) := by
    refine RC_gd (decide_eq_true hcap) (RC_gd (decide_eq_true hcap) (RC_gd (decide_eq_true hcap) (RC_then hev (fun r sF' c hu => ?_))))
    obtain ⟨rfl, ⟨Z', u2⟩, u3, u4⟩ := hu
    have w0 : wI η a it = byI η a it := by unfold wI; rw [if_neg hn123]
    rw [w0]
    have hby : byI η a it = if it.1 = 61 then wB (evV η it.2.2.2.1).1 it.2.2.1 else if it.1 = 64 then aB it.2.1 ((evV η it.2.2.2.1).1 - a) else if isJ it.1 = true then jB it.1 it.2.1 ((evV η it.2.2.2.1).1 - a) (Lof it.2.2.1) else wB (it.2.1 ||| scat it.1 (numI it.1 (evV η it.2.2.2.1).1 a)) it.2.2.1 := by
      unfold byI
      rw [if_neg c0, if_neg c2, if_neg (by simp [c1, c3]), if_neg c4]
    have hck : ckI η a it = if it.1 = 61 ∨ it.1 = 64 then mdF (evV η it.2.2.2.1).2.1 (evV η it.2.2.2.1).2.2 else if isJ it.1 = true then ckJ η a it.1 (Lof it.2.2.1) it.2.2.2.1 else ckS η a it.1 it.2.2.2.1 := by
      unfold ckI
      rw [if_neg hn4]
    by_cases hr : r = 0
    · refine RC_y hr (RC_gd (decide_eq_true hcap) ?_)
      have hm0 := u3.symm.trans hr
      rw [i3, u4 hr, hf3, hf4]
      refine RC_if (fun c61 => ?_) (fun c61 => ?_)
      · refine RC_gd (decide_eq_true hcap) ?_
        obtain ⟨sE', q1, q2, q3⟩ := C_put (N := N) (sY := sY) (sF := sF') (sN := sN) (sT := sT) (sP := sP) (sI := sI) hN (evV η it.2.2.2.1).1 (n := it.2.2.1) (by omega) (show at' < 2 ^ 30 by omega) hR
        refine RC_cl q1 (RC_ret ⟨rfl, ⟨Z', u2⟩, ?_, q3, ⟨_, q2⟩, fun _ => ?_⟩)
        · rw [hck, if_pos (Or.inl c61)]; exact hm0.symm
        · rw [hby, if_pos c61]; exact q2
      refine RC_if (fun c64 => ?_) (fun c64 => ?_)
      · refine RC_gd (decide_eq_true hcap) ?_
        have hnp : ¬ pln it.1 := by unfold pln; rw [c64]; decide
        unfold C_Enc_putAddress
        obtain ⟨sE1, q1, q2, q3⟩ := C_put (N := N) (sY := sY) (sF := sF') (sN := sN) (sT := sT) (sP := sP) (sI := sI) hN (it.2.1 ||| (jush (((evV η it.2.2.2.1).1 - nI at') + 2048) 12 <<< ((12 : Int32) &&& 31))) (n := 4) (by omega) (show at' < 2 ^ 30 by omega) hR
        obtain ⟨sE2, r1, r2, r3⟩ := C_put (N := N) (sY := sY) (sF := sF') (sN := sN) (sT := sT) (sP := sP) (sI := sI) hN (((19 ||| (((it.2.1 >>> ((7 : Int32) &&& 31)) &&& 31) <<< ((7 : Int32) &&& 31))) ||| (((it.2.1 >>> ((7 : Int32) &&& 31)) &&& 31) <<< ((15 : Int32) &&& 31))) ||| (((evV η it.2.2.2.1).1 - nI at') <<< ((20 : Int32) &&& 31))) (n := 4) (by omega) (show at' + 4 < 2 ^ 30 by omega) q2
        have hpa : (bnd ((it.2.1 >>> ((7 : Int32) &&& 31)) &&& 31) (fun y1 => cl (C_Enc_put N (nI at') (it.2.1 ||| ((jush (((evV η it.2.2.2.1).1 - nI at') + 2048) 12) <<< ((12 : Int32) &&& 31))) 4 sE sY sF' sN sT sP sI) (fun r2 u3 => cl (C_Enc_put N (nI at' + 4) (((19 ||| (y1 <<< ((7 : Int32) &&& 31))) ||| (y1 <<< ((15 : Int32) &&& 31))) ||| (((evV η it.2.2.2.1).1 - nI at') <<< ((20 : Int32) &&& 31))) 4 u3 sY sF' sN sT sP sI) (fun r4 u5 => some ((0 : Int32), u5))))) = some (0, sE2) := by
          unfold bnd
          have q1' := q1
          rw [show nI 4 = (4 : Int32) from rfl] at q1'
          rw [q1']
          simp only [cl, Option.bind_some]
          rw [show nI at' + 4 = nI (at' + 4) from nI_add at' 4]
          rw [show nI 4 = (4 : Int32) from rfl] at r1
          rw [r1]
          rfl
        refine RC_cl hpa (RC_ret ⟨rfl, ⟨Z', u2⟩, ?_, q3.tr r3, ⟨_, r2⟩, fun _ => ?_⟩)
        · rw [hck, if_pos (Or.inr c64)]; exact hm0.symm
        · rw [hby, if_neg c61, if_pos c64]
          rw [← ha hnp]
          unfold aB
          rw [← wr_app, wB_len]
          exact r2
      have hnp : ¬ pln it.1 := by unfold pln; simp [c0, c1, c2, c3, c4, c61]
      have numb : ∀ (v : Int32), isJ it.1 = false → v = numI it.1 (evV η it.2.2.2.1).1 a → RC (fp sF' x y) (cl (C_Enc_encodeNumber N (cI E1 + j + 1) v (nI at') sE sY sF' sN sT sP sI) (fun r1 u2 => some ((r1, (u2, sF')), (0, 0)))) (EnP K V S x y sE l at' (ckI η a it) (byI η a it)) := by
        intro v hJ hv
        obtain ⟨sE', q1, q2, q3, q4⟩ := C_encNum (N := N) (sY := sY) (sF := sF') (sN := sN) (sT := sT) (sP := sP) (v := v) hN hcap i3 hf3 hf4 hlen8 (show at' < 2 ^ 29 by omega) hR
        have hck2 : ckI η a it = if fitB it.1 v = true then 0 else 10 := by
          rw [hck, if_neg (by simp [c61, c64]), hJ, if_neg (by decide)]
          unfold ckS
          rw [ckF_z hm0, hv]
        refine RC_cl q1 (RC_ret ⟨rfl, ⟨Z', u2⟩, ?_, q2, q3, fun hz => ?_⟩)
        · rw [hck2]; split <;> rfl
        · rw [hck2] at hz
          have hfit : fitB it.1 v = true := by
            by_cases z : fitB it.1 v = true
            · exact z
            · rw [if_neg z] at hz; omega
          rw [hby, if_neg c61, if_neg c64, hJ, if_neg (by decide), ← hv]
          exact q4 hfit
      have jump : isJ it.1 = true → RC (fp sF' x y) (C_Enc_encodeExpression_140 N (cI E1 + j + 1) (nI at') (evV η it.2.2.2.1).1 sE sY sF' sN sT sP sI) (EnP K V S x y sE l at' (ckI η a it) (byI η a it)) := by
        intro hJ
        unfold C_Enc_encodeExpression_140
        obtain ⟨L, hL2, hlL⟩ : ∃ L, L ≤ 2 ∧ it.2.2.1 = 2 * 2 ^ L := by
          have hS := (WfE_SI hX hW e (by rw [hE]; simp)).1 h5
          rcases hS with ⟨p1, -⟩ | ⟨n, p1, p2⟩ | ⟨mk, w, lev, R, p1, p2, p3, p4⟩
          · have := (p1 it hmem).2; rw [hJ] at this; cases this
          · rw [p2] at hmem
            rw [List.mem_singleton.mp hmem] at hJ
            exact absurd hJ (show ¬ isJ 3 = true by decide)
          · rw [p1] at hmem
            rw [List.mem_singleton.mp hmem]
            have : lvM mk ≤ 2 := by unfold lvM; split <;> omega
            exact ⟨lev, by omega, rfl⟩
        have hf4' := hf4
        rw [hlL] at hf4'
        obtain ⟨sE', q1, q2, q3, q4⟩ := C_encJmp (N := N) (sY := sY) (sF := sF') (sN := sN) (sT := sT) (sP := sP) (off := (evV η it.2.2.2.1).1 - nI at') hN hL2 hcap i3 hf3 hf4' (show at' < 2 ^ 29 by omega) hR
        have hlof : Lof it.2.2.1 = L := by rw [hlL]; exact Lof_2 hL2
        have hck2 : ckI η a it = if fitB (jmk it.1 L) (jcnt ((evV η it.2.2.2.1).1 - nI at') L) = true then 0 else 10 := by
          rw [hck, if_neg (by simp [c61, c64]), if_pos hJ, hlof]
          unfold ckJ
          rw [ckF_z hm0, ha hnp]
        refine RC_cl q1 (RC_ret ⟨rfl, ⟨Z', u2⟩, ?_, q2, q3, fun hz => ?_⟩)
        · rw [hck2]; split <;> rfl
        · rw [hck2] at hz
          have hfit : fitB (jmk it.1 L) (jcnt ((evV η it.2.2.2.1).1 - nI at') L) = true := by
            by_cases z : fitB (jmk it.1 L) (jcnt ((evV η it.2.2.2.1).1 - nI at') L) = true
            · exact z
            · rw [if_neg z] at hz; omega
          rw [hby, if_neg c61, if_neg c64, if_pos hJ, hlof, ← ha hnp]
          exact q4 hfit
      have rel : ∀ (mk : Int32), it.1 = mk → (mk = 106 ∨ mk = 74 ∨ mk = 66) → RC (fp sF' x y) (C_Enc_encodeExpression_151 N (cI E1 + j + 1) (nI at') (evV η it.2.2.2.1).1 sE sY sF' sN sT sP sI) (EnP K V S x y sE l at' (ckI η a it) (byI η a it)) := by
        intro mk hmk hk
        unfold C_Enc_encodeExpression_151
        refine numb _ (by rw [hmk]; rcases hk with z | z | z <;> rw [z] <;> decide) ?_
        unfold numI
        rw [hmk, if_pos hk, ha hnp]
      refine RC_if (fun c => rel 66 c (by decide)) (fun c66 => RC_if (fun c => rel 74 c (by decide)) (fun c74 => RC_if (fun c => rel 106 c (by decide)) (fun c106 => RC_if (fun c => jump (by rw [c]; decide)) (fun c116 => RC_if (fun c => jump (by rw [c]; decide)) (fun c120 => RC_if (fun c => jump (by rw [c]; decide)) (fun c122 => ?_))))))
      refine numb _ ?_ ?_
      · unfold isJ; exact decide_eq_false (by simp [c116, c120, c122])
      · unfold numI
        rw [if_neg (by simp [c106, c74, c66])]
    · refine RC_n hr (RC_ret ⟨rfl, ⟨Z', u2⟩, ?_, EF.rf _, ⟨_, hR⟩, fun hz => ?_⟩)
      · have hmd : mdF (evV η it.2.2.2.1).2.1 (evV η it.2.2.2.1).2.2 ≠ 0 := fun z => hr (by rw [u3, z]; rfl)
        rw [u3, hck]
        split
        · rfl
        · split
          · unfold ckJ; rw [ckF_md _ hmd]
          · unfold ckS; rw [ckF_md _ hmd]
      · exfalso
        have hmd : mdF (evV η it.2.2.2.1).2.1 (evV η it.2.2.2.1).2.2 ≠ 0 := fun z => hr (by rw [u3, z]; rfl)
        rw [hck] at hz
        split at hz
        · exact hmd hz
        · split at hz
          · unfold ckJ at hz; rw [ckF_md _ hmd] at hz; exact hmd hz
          · unfold ckS at hz; rw [ckF_md _ hmd] at hz; exact hmd hz
  refine RC_then inner (fun v u c hu => RC_ret hu)
end
