theorem rb_65 (n : Int32) : rb 65 n = (if 8 ≤ n ∧ n ≤ 15 then (n - 8) <<< ((7 : Int32) &&& 31) else -1) := by
  unfold rb
  rw [if_pos rfl]
theorem rb_68 (n : Int32) : rb 68 n = (if 8 ≤ n ∧ n ≤ 15 then (n - 8) <<< ((2 : Int32) &&& 31) else -1) := by
  unfold rb
  rw [if_neg (by decide), if_pos rfl]
theorem rb_97 (n : Int32) : rb 97 n = n <<< ((15 : Int32) &&& 31) := by
  unfold rb
  rw [if_neg (by decide), if_neg (by decide), if_pos rfl]
theorem rb_98 (n : Int32) : rb 98 n = n <<< ((20 : Int32) &&& 31) := by
  unfold rb
  rw [if_neg (by decide), if_neg (by decide), if_neg (by decide), if_pos rfl]
theorem rb_100 (n : Int32) : rb 100 n = n <<< ((7 : Int32) &&& 31) := by
  unfold rb
  rw [if_neg (by decide), if_neg (by decide), if_neg (by decide), if_neg (by decide), if_pos rfl]
theorem rb_108 (n : Int32) : rb 108 n = (if n = 2 then -1 else n <<< ((7 : Int32) &&& 31)) := by
  unfold rb
  rw [if_neg (by decide), if_neg (by decide), if_neg (by decide), if_neg (by decide), if_neg (by decide), if_pos rfl]
theorem rb_109 (n : Int32) : rb 109 n = (if n = 0 then -1 else n <<< ((2 : Int32) &&& 31)) := by
  unfold rb
  rw [if_neg (by decide), if_neg (by decide), if_neg (by decide), if_neg (by decide), if_neg (by decide), if_neg (by decide), if_pos rfl]
theorem rb_110 (n : Int32) : rb 110 n = (if n = 0 then -1 else n <<< ((7 : Int32) &&& 31)) := by
  unfold rb
  rw [if_neg (by decide), if_neg (by decide), if_neg (by decide), if_neg (by decide), if_neg (by decide), if_neg (by decide), if_neg (by decide), if_pos rfl]
theorem rb_115 (n : Int32) : rb 115 n = n <<< ((2 : Int32) &&& 31) := by
  unfold rb
  rw [if_neg (by decide), if_neg (by decide), if_neg (by decide), if_neg (by decide), if_neg (by decide), if_neg (by decide), if_neg (by decide), if_neg (by decide), if_pos rfl]
theorem rb_0 (n : Int32) : rb 0 n = -1 := by
  unfold rb
  rw [if_neg (by decide), if_neg (by decide), if_neg (by decide), if_neg (by decide), if_neg (by decide), if_neg (by decide), if_neg (by decide), if_neg (by decide), if_neg (by decide)]
theorem fitB_52 (v : Int32) : fitB 52 v = inW v 4 1020 4 := by
  unfold fitB
  rw [if_pos rfl]
theorem fitB_54 (v : Int32) : fitB 54 v = (inW v (-512) 496 16 && !(decide (v = 0))) := by
  unfold fitB
  rw [if_neg (by decide), if_pos rfl]
theorem fitB_66 (v : Int32) : fitB 66 v = inW v (-256) 254 2 := by
  unfold fitB
  rw [if_neg (by decide), if_neg (by decide), if_pos rfl]
theorem fitB_72 (v : Int32) : fitB 72 v = inW v 0 31 1 := by
  unfold fitB
  rw [if_neg (by decide), if_neg (by decide), if_neg (by decide), if_pos rfl]
theorem fitB_74 (v : Int32) : fitB 74 v = inW v (-2048) 2046 2 := by
  unfold fitB
  rw [if_neg (by decide), if_neg (by decide), if_neg (by decide), if_neg (by decide), if_pos rfl]
theorem fitB_76 (v : Int32) : fitB 76 v = inW v 0 252 4 := by
  unfold fitB
  rw [if_neg (by decide), if_neg (by decide), if_neg (by decide), if_neg (by decide), if_neg (by decide), if_pos rfl]
theorem fitB_78 (v : Int32) : fitB 78 v = inW v (-32) 31 1 := by
  unfold fitB
  rw [if_neg (by decide), if_neg (by decide), if_neg (by decide), if_neg (by decide), if_neg (by decide), if_neg (by decide), if_pos rfl]
theorem fitB_83 (v : Int32) : fitB 83 v = inW v 0 252 4 := by
  unfold fitB
  rw [if_neg (by decide), if_neg (by decide), if_neg (by decide), if_neg (by decide), if_neg (by decide), if_neg (by decide), if_neg (by decide), if_pos rfl]
theorem fitB_85 (v : Int32) : fitB 85 v = (inW v (-32) 31 1 && !(decide (v = 0))) := by
  unfold fitB
  rw [if_neg (by decide), if_neg (by decide), if_neg (by decide), if_neg (by decide), if_neg (by decide), if_neg (by decide), if_neg (by decide), if_neg (by decide), if_pos rfl]
theorem fitB_104 (v : Int32) : fitB 104 v = inW v 0 31 1 := by
  unfold fitB
  rw [if_neg (by decide), if_neg (by decide), if_neg (by decide), if_neg (by decide), if_neg (by decide), if_neg (by decide), if_neg (by decide), if_neg (by decide), if_neg (by decide), if_pos rfl]
theorem fitB_105 (v : Int32) : fitB 105 v = inW v (-2048) 2047 1 := by
  unfold fitB
  rw [if_neg (by decide), if_neg (by decide), if_neg (by decide), if_neg (by decide), if_neg (by decide), if_neg (by decide), if_neg (by decide), if_neg (by decide), if_neg (by decide), if_neg (by decide), if_pos rfl]
theorem fitB_106 (v : Int32) : fitB 106 v = inW v (-1048576) 1048574 2 := by
  unfold fitB
  rw [if_neg (by decide), if_neg (by decide), if_neg (by decide), if_neg (by decide), if_neg (by decide), if_neg (by decide), if_neg (by decide), if_neg (by decide), if_neg (by decide), if_neg (by decide), if_neg (by decide), if_pos rfl]
theorem fitB_111 (v : Int32) : fitB 111 v = inW v (-2048) 2047 1 := by
  unfold fitB
  rw [if_neg (by decide), if_neg (by decide), if_neg (by decide), if_neg (by decide), if_neg (by decide), if_neg (by decide), if_neg (by decide), if_neg (by decide), if_neg (by decide), if_neg (by decide), if_neg (by decide), if_neg (by decide), if_pos rfl]
theorem fitB_116 (v : Int32) : fitB 116 v = inW v (-4096) 4094 2 := by
  unfold fitB
  rw [if_neg (by decide), if_neg (by decide), if_neg (by decide), if_neg (by decide), if_neg (by decide), if_neg (by decide), if_neg (by decide), if_neg (by decide), if_neg (by decide), if_neg (by decide), if_neg (by decide), if_neg (by decide), if_neg (by decide), if_pos rfl]
theorem fitB_117 (v : Int32) : fitB 117 v = inW v 0 1048575 1 := by
  unfold fitB
  rw [if_neg (by decide), if_neg (by decide), if_neg (by decide), if_neg (by decide), if_neg (by decide), if_neg (by decide), if_neg (by decide), if_neg (by decide), if_neg (by decide), if_neg (by decide), if_neg (by decide), if_neg (by decide), if_neg (by decide), if_neg (by decide), if_pos rfl]
theorem fitB_119 (v : Int32) : fitB 119 v = inW v 0 124 4 := by
  unfold fitB
  rw [if_neg (by decide), if_neg (by decide), if_neg (by decide), if_neg (by decide), if_neg (by decide), if_neg (by decide), if_neg (by decide), if_neg (by decide), if_neg (by decide), if_neg (by decide), if_neg (by decide), if_neg (by decide), if_neg (by decide), if_neg (by decide), if_neg (by decide), if_pos rfl]
theorem fitB_0 (v : Int32) : fitB 0 v = true := by
  unfold fitB
  rw [if_neg (by decide), if_neg (by decide), if_neg (by decide), if_neg (by decide), if_neg (by decide), if_neg (by decide), if_neg (by decide), if_neg (by decide), if_neg (by decide), if_neg (by decide), if_neg (by decide), if_neg (by decide), if_neg (by decide), if_neg (by decide), if_neg (by decide), if_neg (by decide)]
theorem scat_104 (v : Int32) : scat 104 v = v <<< ((20 : Int32) &&& 31) := by
  unfold scat
  rw [if_pos rfl]
theorem scat_105 (v : Int32) : scat 105 v = v <<< ((20 : Int32) &&& 31) := by
  unfold scat
  rw [if_neg (by decide), if_pos rfl]
theorem scat_106 (v : Int32) : scat 106 v = ((pic v 20 1 31 ||| pic v 1 10 21) ||| pic v 11 1 20) ||| pic v 12 8 12 := by
  unfold scat
  rw [if_neg (by decide), if_neg (by decide), if_pos rfl]
theorem scat_111 (v : Int32) : scat 111 v = pic v 5 7 25 ||| pic v 0 5 7 := by
  unfold scat
  rw [if_neg (by decide), if_neg (by decide), if_neg (by decide), if_pos rfl]
theorem scat_116 (v : Int32) : scat 116 v = ((pic v 12 1 31 ||| pic v 5 6 25) ||| pic v 1 4 8) ||| pic v 11 1 7 := by
  unfold scat
  rw [if_neg (by decide), if_neg (by decide), if_neg (by decide), if_neg (by decide), if_pos rfl]
theorem scat_117 (v : Int32) : scat 117 v = v <<< ((12 : Int32) &&& 31) := by
  unfold scat
  rw [if_neg (by decide), if_neg (by decide), if_neg (by decide), if_neg (by decide), if_neg (by decide), if_pos rfl]
theorem scat_52 (v : Int32) : scat 52 v = ((pic v 4 2 11 ||| pic v 6 4 7) ||| pic v 2 1 6) ||| pic v 3 1 5 := by
  unfold scat
  rw [if_neg (by decide), if_neg (by decide), if_neg (by decide), if_neg (by decide), if_neg (by decide), if_neg (by decide), if_pos rfl]
theorem scat_54 (v : Int32) : scat 54 v = (((pic v 9 1 12 ||| pic v 4 1 6) ||| pic v 6 1 5) ||| pic v 7 2 3) ||| pic v 5 1 2 := by
  unfold scat
  rw [if_neg (by decide), if_neg (by decide), if_neg (by decide), if_neg (by decide), if_neg (by decide), if_neg (by decide), if_neg (by decide), if_pos rfl]
theorem scat_66 (v : Int32) : scat 66 v = (((pic v 8 1 12 ||| pic v 3 2 10) ||| pic v 6 2 5) ||| pic v 1 2 3) ||| pic v 5 1 2 := by
  unfold scat
  rw [if_neg (by decide), if_neg (by decide), if_neg (by decide), if_neg (by decide), if_neg (by decide), if_neg (by decide), if_neg (by decide), if_neg (by decide), if_pos rfl]
theorem scat_72 (v : Int32) : scat 72 v = v <<< ((2 : Int32) &&& 31) := by
  unfold scat
  rw [if_neg (by decide), if_neg (by decide), if_neg (by decide), if_neg (by decide), if_neg (by decide), if_neg (by decide), if_neg (by decide), if_neg (by decide), if_neg (by decide), if_pos rfl]
theorem scat_74 (v : Int32) : scat 74 v = ((((((pic v 11 1 12 ||| pic v 4 1 11) ||| pic v 8 2 9) ||| pic v 10 1 8) ||| pic v 6 1 7) ||| pic v 7 1 6) ||| pic v 1 3 3) ||| pic v 5 1 2 := by
  unfold scat
  rw [if_neg (by decide), if_neg (by decide), if_neg (by decide), if_neg (by decide), if_neg (by decide), if_neg (by decide), if_neg (by decide), if_neg (by decide), if_neg (by decide), if_neg (by decide), if_pos rfl]
theorem scat_76 (v : Int32) : scat 76 v = (pic v 5 1 12 ||| pic v 2 3 4) ||| pic v 6 2 2 := by
  unfold scat
  rw [if_neg (by decide), if_neg (by decide), if_neg (by decide), if_neg (by decide), if_neg (by decide), if_neg (by decide), if_neg (by decide), if_neg (by decide), if_neg (by decide), if_neg (by decide), if_neg (by decide), if_pos rfl]
theorem scat_78 (v : Int32) : scat 78 v = pic v 5 1 12 ||| pic v 0 5 2 := by
  unfold scat
  rw [if_neg (by decide), if_neg (by decide), if_neg (by decide), if_neg (by decide), if_neg (by decide), if_neg (by decide), if_neg (by decide), if_neg (by decide), if_neg (by decide), if_neg (by decide), if_neg (by decide), if_neg (by decide), if_pos rfl]
theorem scat_83 (v : Int32) : scat 83 v = pic v 2 4 9 ||| pic v 6 2 7 := by
  unfold scat
  rw [if_neg (by decide), if_neg (by decide), if_neg (by decide), if_neg (by decide), if_neg (by decide), if_neg (by decide), if_neg (by decide), if_neg (by decide), if_neg (by decide), if_neg (by decide), if_neg (by decide), if_neg (by decide), if_neg (by decide), if_pos rfl]
theorem scat_85 (v : Int32) : scat 85 v = pic v 5 1 12 ||| pic v 0 5 2 := by
  unfold scat
  rw [if_neg (by decide), if_neg (by decide), if_neg (by decide), if_neg (by decide), if_neg (by decide), if_neg (by decide), if_neg (by decide), if_neg (by decide), if_neg (by decide), if_neg (by decide), if_neg (by decide), if_neg (by decide), if_neg (by decide), if_neg (by decide), if_pos rfl]
theorem scat_119 (v : Int32) : scat 119 v = (pic v 3 3 10 ||| pic v 2 1 6) ||| pic v 6 1 5 := by
  unfold scat
  rw [if_neg (by decide), if_neg (by decide), if_neg (by decide), if_neg (by decide), if_neg (by decide), if_neg (by decide), if_neg (by decide), if_neg (by decide), if_neg (by decide), if_neg (by decide), if_neg (by decide), if_neg (by decide), if_neg (by decide), if_neg (by decide), if_neg (by decide), if_pos rfl]
theorem scat_0 (v : Int32) : scat 0 v = v := by
  unfold scat
  rw [if_neg (by decide), if_neg (by decide), if_neg (by decide), if_neg (by decide), if_neg (by decide), if_neg (by decide), if_neg (by decide), if_neg (by decide), if_neg (by decide), if_neg (by decide), if_neg (by decide), if_neg (by decide), if_neg (by decide), if_neg (by decide), if_neg (by decide), if_neg (by decide)]
theorem numI_0 (v a : Int32) : numI 0 v a = v := by
  unfold numI
  rw [if_neg (by decide)]
theorem numI_61 (v a : Int32) : numI 61 v a = v := by
  unfold numI
  rw [if_neg (by decide)]
theorem numI_64 (v a : Int32) : numI 64 v a = v := by
  unfold numI
  rw [if_neg (by decide)]
theorem numI_52 (v a : Int32) : numI 52 v a = v := by
  unfold numI
  rw [if_neg (by decide)]
theorem numI_54 (v a : Int32) : numI 54 v a = v := by
  unfold numI
  rw [if_neg (by decide)]
theorem numI_72 (v a : Int32) : numI 72 v a = v := by
  unfold numI
  rw [if_neg (by decide)]
theorem numI_76 (v a : Int32) : numI 76 v a = v := by
  unfold numI
  rw [if_neg (by decide)]
theorem numI_78 (v a : Int32) : numI 78 v a = v := by
  unfold numI
  rw [if_neg (by decide)]
theorem numI_83 (v a : Int32) : numI 83 v a = v := by
  unfold numI
  rw [if_neg (by decide)]
theorem numI_85 (v a : Int32) : numI 85 v a = v := by
  unfold numI
  rw [if_neg (by decide)]
theorem numI_104 (v a : Int32) : numI 104 v a = v := by
  unfold numI
  rw [if_neg (by decide)]
theorem numI_105 (v a : Int32) : numI 105 v a = v := by
  unfold numI
  rw [if_neg (by decide)]
theorem numI_111 (v a : Int32) : numI 111 v a = v := by
  unfold numI
  rw [if_neg (by decide)]
theorem numI_117 (v a : Int32) : numI 117 v a = v := by
  unfold numI
  rw [if_neg (by decide)]
theorem numI_119 (v a : Int32) : numI 119 v a = v := by
  unfold numI
  rw [if_neg (by decide)]
theorem numI_106 (v a : Int32) : numI 106 v a = v - a := by
  unfold numI
  rw [if_pos (by decide)]
theorem numI_74 (v a : Int32) : numI 74 v a = v - a := by
  unfold numI
  rw [if_pos (by decide)]
theorem numI_66 (v a : Int32) : numI 66 v a = v - a := by
  unfold numI
  rw [if_pos (by decide)]
theorem or_5 (w p q a d : Int32) : (((w ||| p) ||| q) ||| a) ||| d = ((w ||| d) ||| a) ||| (p ||| q) := by ac_rfl
theorem or_4 (w d p q : Int32) : ((w ||| d) ||| p) ||| q = (w ||| d) ||| (p ||| q) := by ac_rfl
theorem or_6 (w d p q r : Int32) : (((w ||| d) ||| p) ||| q) ||| r = (w ||| d) ||| ((p ||| q) ||| r) := by ac_rfl
theorem or_7 (w p q r s d : Int32) : ((((w ||| p) ||| q) ||| r) ||| s) ||| d = (w ||| d) ||| (((p ||| q) ||| r) ||| s) := by ac_rfl
theorem or_8 (w p q r s t : Int32) : ((((w ||| p) ||| q) ||| r) ||| s) ||| t = w ||| ((((p ||| q) ||| r) ||| s) ||| t) := by ac_rfl
theorem or_9 (w p q r a d : Int32) : ((((w ||| p) ||| q) ||| r) ||| a) ||| d = ((w ||| d) ||| a) ||| ((p ||| q) ||| r) := by ac_rfl
theorem low2r {c n : Int32} (w : Int32) (h : ¬ rb c n < 0) : (w ||| rb c n) &&& 3 = w &&& 3 := by
  have neg : ¬ rb c n = -1 := fun z => h (by rw [z]; decide)
  unfold rb at neg ⊢
  by_cases c65 : c = 65
  · rw [if_pos c65] at neg ⊢
    by_cases z : 8 ≤ n ∧ n ≤ 15
    · rw [if_pos z]; exact low2 w _ 7 (by decide) (by decide)
    · rw [if_neg z] at neg; exact absurd trivial (fun _ => neg (Eq.refl _))
  rw [if_neg c65] at neg ⊢
  by_cases c68 : c = 68
  · rw [if_pos c68] at neg ⊢
    by_cases z : 8 ≤ n ∧ n ≤ 15
    · rw [if_pos z]; exact low2 w _ 2 (by decide) (by decide)
    · rw [if_neg z] at neg; exact absurd trivial (fun _ => neg (Eq.refl _))
  rw [if_neg c68] at neg ⊢
  by_cases c97 : c = 97
  · rw [if_pos c97] at neg ⊢
    exact low2 w _ 15 (by decide) (by decide)
  rw [if_neg c97] at neg ⊢
  by_cases c98 : c = 98
  · rw [if_pos c98] at neg ⊢
    exact low2 w _ 20 (by decide) (by decide)
  rw [if_neg c98] at neg ⊢
  by_cases c100 : c = 100
  · rw [if_pos c100] at neg ⊢
    exact low2 w _ 7 (by decide) (by decide)
  rw [if_neg c100] at neg ⊢
  by_cases c108 : c = 108
  · rw [if_pos c108] at neg ⊢
    by_cases z : n = 2
    · rw [if_pos z] at neg; exact absurd trivial (fun _ => neg (Eq.refl _))
    · rw [if_neg z]; exact low2 w _ 7 (by decide) (by decide)
  rw [if_neg c108] at neg ⊢
  by_cases c109 : c = 109
  · rw [if_pos c109] at neg ⊢
    by_cases z : n = 0
    · rw [if_pos z] at neg; exact absurd trivial (fun _ => neg (Eq.refl _))
    · rw [if_neg z]; exact low2 w _ 2 (by decide) (by decide)
  rw [if_neg c109] at neg ⊢
  by_cases c110 : c = 110
  · rw [if_pos c110] at neg ⊢
    by_cases z : n = 0
    · rw [if_pos z] at neg; exact absurd trivial (fun _ => neg (Eq.refl _))
    · rw [if_neg z]; exact low2 w _ 7 (by decide) (by decide)
  rw [if_neg c110] at neg ⊢
  by_cases c115 : c = 115
  · rw [if_pos c115] at neg ⊢
    exact low2 w _ 2 (by decide) (by decide)
  rw [if_neg c115] at neg ⊢
  exact absurd trivial (fun _ => neg (Eq.refl _))
theorem len_w {mk w : Int32} (h : mk ≠ 64 ∧ mk ≠ 120 ∧ mk ≠ 122) (hw : w &&& 3 = 3) : len0 mk w = 4 := by
  unfold len0
  rw [if_neg h.1, if_neg h.2.1, if_neg h.2.2, if_pos hw]
theorem len_h {mk w : Int32} (h : mk ≠ 64 ∧ mk ≠ 120 ∧ mk ≠ 122) (hw : ¬ w &&& 3 = 3) : len0 mk w = 2 := by
  unfold len0
  rw [if_neg h.1, if_neg h.2.1, if_neg h.2.2, if_neg hw]
theorem ckS_0 (η : Int32 → AT → Int32 × Bool) (a : Int32) : ckS η a 0 [] = 0 := by
  unfold ckS
  rw [fitB_0]
  rfl
theorem sc_00 (η : Int32 → AT → Int32 × Bool) (w a : Int32) : w ||| scat 0 (numI 0 (evV η []).1 a) = w := by
  rw [numI_0, scat_0]
  show w ||| 0 = w
  exact Int32.or_zero
section
variable {N : Nat} {X : List Int32} {σ0 : MS} {Λ : List Lb} {ln cur start : Nat}
/-- the end of a shape without an expression -/
theorem E_w {w : Int32} {r : List AT} {B : List Int32} {σ : MS} {x : Int32} (hG : GR X σ0 r B σ) (hw : w &&& 3 = 3) (hx : x = w) : RR (M_word x σ) (fun _ σ' => OutS X Λ σ0 ln start (0, w, 0, [], r) B σ') :=
  Out_w hG (len_w (by decide) hw) (fun z => z.2 (ckS_0 _ _)) (fun _ => by rw [sc_00]; exact hx)
theorem E_h {w : Int32} {r : List AT} {B : List Int32} {σ : MS} {x : Int32} (hG : GR X σ0 r B σ) (hw : ¬ w &&& 3 = 3) (hx : x = w) : RR (M_half x σ) (fun _ σ' => OutS X Λ σ0 ln start (0, w, 0, [], r) B σ') :=
  Out_h hG (len_h (by decide) hw) (fun z => z.2 (ckS_0 _ _)) (fun _ => by rw [sc_00]; exact hx)
/-- the end of a shape with an expression -/
theorem E_wx (C : Cx N X σ0 Λ ln cur start) {mk w : Int32} {R : List XSt} {r : List AT} {B : List Int32} {σ : MS} {x v : Int32} {m d f : Bool} (hm : mk ≠ 64 ∧ mk ≠ 120 ∧ mk ≠ 122) (ev : evV (η0 X Λ σ0 start) R = (v, m, d)) (h : CK X σ0 ln (ckF m d f) (GR X σ0 r B) σ) (hf : f = fitB mk (numI mk v (σ0.1 19))) (hw : w &&& 3 = 3) (hx : f = true → x = w ||| scat mk (numI mk v (σ0.1 19))) : RR (M_word x σ) (fun _ σ' => OutS X Λ σ0 ln start (0, w, mk, R, r) B σ') := by
  have e : ckS (η0 X Λ σ0 start) (σ0.1 19) mk R = ckF m d f := by
    unfold ckS
    rw [ev, hf]
  refine Out_go C (ckF_le _ _ _) h (fun hn hG => Out_w hG (len_w hm hw) (by rw [e]; exact hn) (fun z => ?_)) (fun F hF hS => FS_word hS _) (fun _ => e)
  rw [ev]
  refine hx ?_
  rw [e] at z
  revert z
  cases m <;> cases d <;> cases f <;> decide
theorem E_hx (C : Cx N X σ0 Λ ln cur start) {mk w : Int32} {R : List XSt} {r : List AT} {B : List Int32} {σ : MS} {x v : Int32} {m d f : Bool} (hm : mk ≠ 64 ∧ mk ≠ 120 ∧ mk ≠ 122) (ev : evV (η0 X Λ σ0 start) R = (v, m, d)) (h : CK X σ0 ln (ckF m d f) (GR X σ0 r B) σ) (hf : f = fitB mk (numI mk v (σ0.1 19))) (hw : ¬ w &&& 3 = 3) (hx : f = true → x = w ||| scat mk (numI mk v (σ0.1 19))) : RR (M_half x σ) (fun _ σ' => OutS X Λ σ0 ln start (0, w, mk, R, r) B σ') := by
  have e : ckS (η0 X Λ σ0 start) (σ0.1 19) mk R = ckF m d f := by
    unfold ckS
    rw [ev, hf]
  refine Out_go C (ckF_le _ _ _) h (fun hn hG => Out_h hG (len_h hm hw) (by rw [e]; exact hn) (fun z => ?_)) (fun F hF hS => FS_half hS _) (fun _ => e)
  rw [ev]
  refine hx ?_
  rw [e] at z
  revert z
  cases m <;> cases d <;> cases f <;> decide
theorem FS_longs_40 {F : Int32} {σ : MS} (hF : F ≠ 0) (h : FS X σ0 F σ) (x1 x2 x3 : Int32) : RR (M_longs_40 N x1 x2 x3 σ) (fun _ σ' => FS X σ0 F σ') := by
  unfold M_longs_40
  exact RR_if (fun _ => RR_then (FS_word h _) (fun _ _ h2 => RR_ret h2)) (fun _ => F_comma hF h)
theorem FS_longs_r {F : Int32} {σ : MS} (hF : F ≠ 0) (h : FS X σ0 F σ) (x1 x2 r1 : Int32) (o : Option (Int32 × MS)) : RR (if x1 = 30 then (if σ.1 14 = 0 then o else M_longs_40 N x1 x2 r1 σ) else M_longs_40 N x1 x2 r1 σ) (fun _ σ' => FS X σ0 F σ') :=
  RR_if (fun _ => RR_n (by rw [h.2.2]; exact hF) (FS_longs_40 hF h _ _ _)) (fun _ => FS_longs_40 hF h _ _ _)
theorem nz1 : nz 1 = true := by decide
theorem L_1 (C : Cx N X σ0 Λ ln cur start) {ts : List AT} {B : List Int32} {σ : MS} {w : Int32} (h : GR X σ0 ts B σ) (hw : w &&& 3 = 3) : RR (M_longs N 1 w σ) (fun _ σ' => OutS X Λ σ0 ln start (shp [100, 44, 97, 44, 98] ts w 0 []) B σ') := by
  unfold M_longs
  refine S_reg C (by decide) h (fun j r σ1 hj hG => RR_n (by decide) ?_) (fun F v σ1 hF hS => FS_longs_r hF hS _ _ _ _)
  unfold M_longs_40
  refine RR_n (by decide) (S_comma C hG (fun r2 σ2 hG2 => RR_n (by decide) (RR_n (by decide) (RR_n (by decide) (RR_n (by decide) (RR_n (by decide) ?_))))))
  refine S_reg C (by decide) hG2 (fun j2 r3 σ3 hj2 hG3 => ?_) (fun F v σ1 hF hS => F_comma hF hS)
  refine S_comma C hG3 (fun r4 σ4 hG4 => RR_y rfl ?_)
  refine S_reg C (by decide) hG4 (fun j3 r5 σ5 hj3 hG5 => ?_) (fun F v σ1 hF hS => RR_then (FS_word hS _) (fun _ _ h2 => RR_ret h2))
  refine RR_then (E_w hG5 ?_ ?_) (fun _ _ h2 => RR_ret h2)
  · rw [low2r _ (rb_pos j3 hj3 _ (by decide)), low2r _ (rb_pos j2 hj2 _ (by decide)), low2r _ (rb_pos j hj _ (by decide)), hw]
  · rw [rb_100, rb_97, rb_98]
theorem L_2 (C : Cx N X σ0 Λ ln cur start) {ts : List AT} {B : List Int32} {σ : MS} {w : Int32} (h : GR X σ0 ts B σ) (hw : w &&& 3 = 3) : RR (M_longs N 2 w σ) (fun _ σ' => OutS X Λ σ0 ln start (shp [100, 44, 97, 44, 105] ts w 0 []) B σ') := by
  unfold M_longs
  refine S_reg C (by decide) h (fun j r σ1 hj hG => RR_n (by decide) ?_) (fun F v σ1 hF hS => FS_longs_r hF hS _ _ _ _)
  unfold M_longs_40
  refine RR_n (by decide) (S_comma C hG (fun r2 σ2 hG2 => RR_n (by decide) (RR_n (by decide) (RR_n (by decide) (RR_n (by decide) (RR_n (by decide) ?_))))))
  refine S_reg C (by decide) hG2 (fun j2 r3 σ3 hj2 hG3 => ?_) (fun F v σ1 hF hS => F_comma hF hS)
  refine S_comma C hG3 (fun r4 σ4 hG4 => RR_n (by decide) (RR_y rfl ?_))
  refine S_within C (by decide) nz1 hG4 (fun R rest v m d σ5 ev hC => ?_) (fun F v σ1 hF hS => RR_then (FS_word hS _) (fun _ _ h2 => RR_ret h2))
  refine RR_then (E_wx C (by decide) ev hC (by rw [numI_105, fitB_105, fitR_1]) ?_ (fun _ => ?_)) (fun _ _ h2 => RR_ret h2)
  · rw [low2r _ (rb_pos j2 hj2 _ (by decide)), low2r _ (rb_pos j hj _ (by decide)), hw]
  · rw [numI_105, scat_105, rb_100, rb_97]
theorem L_3 (C : Cx N X σ0 Λ ln cur start) {ts : List AT} {B : List Int32} {σ : MS} {w : Int32} (h : GR X σ0 ts B σ) (hw : w &&& 3 = 3) : RR (M_longs N 3 w σ) (fun _ σ' => OutS X Λ σ0 ln start (shp [100, 44, 97, 44, 104] ts w 0 []) B σ') := by
  unfold M_longs
  refine S_reg C (by decide) h (fun j r σ1 hj hG => RR_n (by decide) ?_) (fun F v σ1 hF hS => FS_longs_r hF hS _ _ _ _)
  unfold M_longs_40
  refine RR_n (by decide) (S_comma C hG (fun r2 σ2 hG2 => RR_n (by decide) (RR_n (by decide) (RR_n (by decide) (RR_n (by decide) (RR_n (by decide) ?_))))))
  refine S_reg C (by decide) hG2 (fun j2 r3 σ3 hj2 hG3 => ?_) (fun F v σ1 hF hS => F_comma hF hS)
  refine S_comma C hG3 (fun r4 σ4 hG4 => RR_n (by decide) (RR_n (by decide) (RR_y rfl ?_)))
  refine S_within C (by decide) nz1 hG4 (fun R rest v m d σ5 ev hC => ?_) (fun F v σ1 hF hS => RR_then (FS_word hS _) (fun _ _ h2 => RR_ret h2))
  refine RR_then (E_wx C (by decide) ev hC (by rw [numI_104, fitB_104, fitR_1]) ?_ (fun z => ?_)) (fun _ _ h2 => RR_ret h2)
  · rw [low2r _ (rb_pos j2 hj2 _ (by decide)), low2r _ (rb_pos j hj _ (by decide)), hw]
  · rw [fitR_1] at z
    rw [numI_104, scat_104, rb_100, rb_97, in31 z]
theorem L_6 (C : Cx N X σ0 Λ ln cur start) {ts : List AT} {B : List Int32} {σ : MS} {w : Int32} (h : GR X σ0 ts B σ) (hw : w &&& 3 = 3) : RR (M_longs N 6 w σ) (fun _ σ' => OutS X Λ σ0 ln start (shp [100, 44, 117] ts w 0 []) B σ') := by
  unfold M_longs
  refine S_reg C (by decide) h (fun j r σ1 hj hG => RR_n (by decide) ?_) (fun F v σ1 hF hS => FS_longs_r hF hS _ _ _ _)
  unfold M_longs_40
  refine RR_n (by decide) (S_comma C hG (fun r2 σ2 hG2 => RR_n (by decide) (RR_n (by decide) (RR_n (by decide) (RR_y rfl ?_)))))
  refine S_within C (by decide) nz1 hG2 (fun R rest v m d σ5 ev hC => ?_) (fun F v σ1 hF hS => RR_then (FS_word hS _) (fun _ _ h2 => RR_ret h2))
  refine RR_then (E_wx C (by decide) ev hC (by rw [numI_117, fitB_117, fitR_1]) ?_ (fun _ => ?_)) (fun _ _ h2 => RR_ret h2)
  · rw [low2r _ (rb_pos j hj _ (by decide)), hw]
  · rw [numI_117, scat_117, rb_100]
theorem L_11 (C : Cx N X σ0 Λ ln cur start) {ts : List AT} {B : List Int32} {σ : MS} {w : Int32} (h : GR X σ0 ts B σ) (hw : w &&& 3 = 3) : RR (M_longs N 11 w σ) (fun _ σ' => OutS X Λ σ0 ln start (shp [100] ts w 0 []) B σ') := by
  unfold M_longs
  refine S_reg C (by decide) h (fun j r σ1 hj hG => RR_n (by decide) ?_) (fun F v σ1 hF hS => FS_longs_r hF hS _ _ _ _)
  unfold M_longs_40
  refine RR_y rfl (RR_then (E_w hG ?_ ?_) (fun _ _ h2 => RR_ret h2))
  · rw [low2r _ (rb_pos j hj _ (by decide)), hw]
  · rw [rb_100]
/-- a register in brackets ends the shape -/
theorem S_br (C : Cx N X σ0 Λ ln cur start) {ts : List AT} {w mk : Int32} {R : List XSt} {B : List Int32} {σ : MS} {k : Int32 → MS → Option (Int32 × MS)} (h : GR X σ0 ts B σ)
    (good : ∀ j r σ1, j < 32 → GR X σ0 r B σ1 → RR (k (nI j) σ1) (fun _ σ' => OutS X Λ σ0 ln start (0, w ||| rb 97 (nI j), mk, R, r) B σ'))
    (bad : ∀ F v σ1, F ≠ 0 → FS X σ0 F σ1 → RR (k v σ1) (fun _ σ' => FS X σ0 F σ')) : RR (cl (M_bracketed N σ) k) (fun _ σ' => OutS X Λ σ0 ln start (shp [40, 97, 41] ts w mk R) B σ') := by
  refine RR_then (G_bracketed C h) (fun v σ1 h1 => ?_)
  rw [shp_br]
  rcases h1 with ⟨e1, e2, e3⟩ | ⟨e1, e3⟩
  · have hj : ∃ j, j < 32 ∧ (brR ts).2.1 = nI j := by
      unfold brR at e1 ⊢
      cases h1 : tk1 40 ts with
      | none => rw [h1] at e1; exact absurd e1 (by decide)
      | some x =>
        rw [h1] at e1
        simp only [] at e1 ⊢
        by_cases h2 : (tkR x.2).1 = 0
        · rw [if_pos h2] at e1 ⊢
          cases h3 : tk1 41 (tkR x.2).2.2 with
          | none => rw [h3] at e1; exact absurd (show (1 : Nat) = 0 from e1) (by decide)
          | some y => exact tkR_n h2
        · rw [if_neg h2] at e1
          exact absurd e1 h2
    obtain ⟨j, j1, j2⟩ := hj
    rw [if_pos e1, e2, j2]
    exact good j _ σ1 j1 e3
  · rw [if_neg e1]
    exact RR_imp (bad _ v σ1 (fl_ne0 C ⟨by omega, brR_le ts⟩) e3) (fun _ σ' h' => Out_f rfl e1 h')
theorem L_9 (C : Cx N X σ0 Λ ln cur start) {ts : List AT} {B : List Int32} {σ : MS} {w : Int32} (h : GR X σ0 ts B σ) (hw : w &&& 3 = 3) : RR (M_longs N 9 w σ) (fun _ σ' => OutS X Λ σ0 ln start (shp [100, 44, 98, 44, 40, 97, 41] ts w 0 []) B σ') := by
  unfold M_longs
  refine S_reg C (by decide) h (fun j r σ1 hj hG => RR_n (by decide) ?_) (fun F v σ1 hF hS => FS_longs_r hF hS _ _ _ _)
  unfold M_longs_40
  refine RR_n (by decide) (S_comma C hG (fun r2 σ2 hG2 => RR_n (by decide) (RR_n (by decide) (RR_n (by decide) (RR_n (by decide) (RR_n (by decide) ?_))))))
  refine S_reg C (by decide) hG2 (fun j2 r3 σ3 hj2 hG3 => ?_) (fun F v σ1 hF hS => F_comma hF hS)
  refine S_comma C hG3 (fun r4 σ4 hG4 => RR_n (by decide) (RR_n (by decide) (RR_n (by decide) ?_)))
  refine S_br C hG4 (fun j3 r5 σ5 hj3 hG5 => ?_) (fun F v σ1 hF hS => RR_then (FS_word hS _) (fun _ _ h2 => RR_ret h2))
  refine RR_then (E_w hG5 ?_ ?_) (fun _ _ h2 => RR_ret h2)
  · rw [low2r _ (rb_pos j3 hj3 _ (by decide)), low2r _ (rb_pos j2 hj2 _ (by decide)), low2r _ (rb_pos j hj _ (by decide)), hw]
  · rw [rb_100, rb_97, rb_98]
theorem L_10 (C : Cx N X σ0 Λ ln cur start) {ts : List AT} {B : List Int32} {σ : MS} {w : Int32} (h : GR X σ0 ts B σ) (hw : w &&& 3 = 3) : RR (M_longs N 10 w σ) (fun _ σ' => OutS X Λ σ0 ln start (shp [100, 44, 40, 97, 41] ts w 0 []) B σ') := by
  unfold M_longs
  refine S_reg C (by decide) h (fun j r σ1 hj hG => RR_n (by decide) ?_) (fun F v σ1 hF hS => FS_longs_r hF hS _ _ _ _)
  unfold M_longs_40
  refine RR_n (by decide) (S_comma C hG (fun r2 σ2 hG2 => RR_n (by decide) (RR_n (by decide) (RR_n (by decide) (RR_n (by decide) (RR_y rfl ?_))))))
  refine S_br C hG2 (fun j3 r5 σ5 hj3 hG5 => ?_) (fun F v σ1 hF hS => RR_then (FS_word hS _) (fun _ _ h2 => RR_ret h2))
  refine RR_then (E_w hG5 ?_ ?_) (fun _ _ h2 => RR_ret h2)
  · rw [low2r _ (rb_pos j3 hj3 _ (by decide)), low2r _ (rb_pos j hj _ (by decide)), hw]
  · rw [rb_100, rb_97]
/-- a number, then a register in brackets -/
theorem FS_longs_109 {F : Int32} {σ : MS} (h : FS X σ0 F σ) (x1 x2 x3 x4 t0 : Int32) : RR (M_longs_109 N x1 x2 x3 x4 t0 σ) (fun _ σ' => FS X σ0 F σ') := by
  unfold M_longs_109 M_longs_171 M_longs_384
  exact RR_if (fun _ => RR_cr rfl (RR_cr rfl (RR_then (FS_word h _) (fun _ _ h2 => RR_ret h2)))) (fun _ => RR_then (FS_word h _) (fun _ _ h2 => RR_ret h2))
theorem FS_longs_81r (C : Cx N X σ0 Λ ln cur start) {F : Int32} {σ : MS} (hF : F ≠ 0) (h : FS X σ0 F σ) (x1 x2 x3 r1 : Int32) : RR (if (σ.1 14) = 0 then cl (M_bracketed N σ) (fun r3 σ4 => M_longs_109 N x1 x2 x3 r1 r3 σ4) else M_longs_109 N x1 x2 x3 r1 0 σ) (fun _ σ' => FS X σ0 F σ') :=
  RR_if (fun _ => RR_then (FS_bracketed C hF h) (fun _ _ h2 => FS_longs_109 h2 _ _ _ _ _)) (fun _ => FS_longs_109 h _ _ _ _ _)
theorem L_81 (C : Cx N X σ0 Λ ln cur start) {c : Int32} {ts : List AT} {B : List Int32} {σ : MS} {s w d : Int32} {w1 : Int32} (h : GR X σ0 ts B σ) (hc : c = 105 ∨ c = 111)
    (go : ∀ (R : List XSt) (r : List AT) (v : Int32) (m dd : Bool) (σ1 : MS) (j : Nat), j < 32 → evV (η0 X Λ σ0 start) R = (v, m, dd) → ¬ (σ0.1 17 = 2 ∧ ckF m dd (fitR v (-2048) 2047 1) ≠ 0) → GR X σ0 r B σ1 → RR (M_longs_109 N s w d v (nI j) σ1) (fun _ σ' => OutS X Λ σ0 ln start (0, w1 ||| rb 97 (nI j), c, R, r) B σ')) : RR (M_longs_81 N s w d σ) (fun _ σ' => OutS X Λ σ0 ln start (shp [c, 40, 97, 41] ts w1 0 []) B σ') := by
  unfold M_longs_81
  have hcm : ¬ (c = 44 ∨ c = 40 ∨ c = 41) ∧ isRM c = false := by rcases hc with h | h <;> subst h <;> decide
  have hcf : ∀ v, fitR v (-2048) 2047 1 = fitB c (numI c v (σ0.1 19)) := by
    intro v
    rcases hc with h | h <;> subst h
    · rw [numI_105, fitB_105, fitR_1]
    · rw [numI_111, fitB_111, fitR_1]
  refine S_within C hcm nz1 h (fun R rest v m dd σ1 ev hC => ?_) (fun F v σ1 hF hS => FS_longs_81r C hF hS _ _ _ _)
  have hkeep := shp_keep [40, 97, 41] rest w1 c R (by decide)
  refine Out_go C (ckF_le _ _ _) hC (fun hn hG => ?_) (fun F hF hS => FS_longs_81r C hF hS _ _ _ _) (fun _ => ?_)
  · refine RR_y (by rw [hG.f.1 14 (by decide)]; exact C.2.2.2.2.2.2.2.2.2) ?_
    exact S_br C hG (fun j r σ2 hj hG2 => go R r v m dd σ2 j hj ev hn hG2) (fun F v σ1 hF hS => FS_longs_109 hS _ _ _ _ _)
  · rw [hkeep.1, hkeep.2]
    unfold ckS
    rw [ev, hcf]
theorem L_4 (C : Cx N X σ0 Λ ln cur start) {ts : List AT} {B : List Int32} {σ : MS} {s w : Int32} (hs : s = 4 ∨ s = 30) {j : Nat} (hj : j < 32) (h : GR X σ0 ts B σ) (hw : w &&& 3 = 3) : RR (M_longs_40 N s w (nI j) σ) (fun _ σ' => OutS X Λ σ0 ln start (shp [44, 105, 40, 97, 41] ts (w ||| rb 100 (nI j)) 0 []) B σ') := by
  have go : ∀ r2 σ2, GR X σ0 r2 B σ2 → RR (M_longs_81 N s w (nI j) σ2) (fun _ σ' => OutS X Λ σ0 ln start (shp [105, 40, 97, 41] r2 (w ||| rb 100 (nI j)) 0 []) B σ') := by
    intro r2 σ2 hG2
    refine L_81 C hG2 (Or.inl rfl) (fun R r v m dd σ1 j2 hj2 ev hn hG => ?_)
    unfold M_longs_109 M_longs_171 M_longs_384
    refine RR_n (by rcases hs with h | h <;> subst h <;> decide) (RR_then (Out_w hG (len_w (by decide) ?_) ?_ (fun _ => ?_)) (fun _ _ h2 => RR_ret h2))
    · rw [low2r _ (rb_pos j2 hj2 _ (by decide)), low2r _ (rb_pos j hj _ (by decide)), hw]
    · unfold ckS
      rw [ev]
      simp only []
      rw [numI_105, fitB_105, ← fitR_1]
      exact hn
    · rw [ev]
      simp only []
      rw [numI_105, scat_105, rb_100, rb_97]
  unfold M_longs_40
  refine RR_n (by rcases hs with h | h <;> subst h <;> decide) (S_comma C h (fun r2 σ2 hG2 => ?_))
  rcases hs with h | h <;> subst h
  · exact RR_y rfl (go r2 σ2 hG2)
  · exact RR_n (by decide) (RR_n (by decide) (RR_y rfl (go r2 σ2 hG2)))
theorem L_4s (C : Cx N X σ0 Λ ln cur start) {ts : List AT} {B : List Int32} {σ : MS} {w : Int32} (h : GR X σ0 ts B σ) (hw : w &&& 3 = 3) : RR (M_longs N 4 w σ) (fun _ σ' => OutS X Λ σ0 ln start (shp [100, 44, 105, 40, 97, 41] ts w 0 []) B σ') := by
  unfold M_longs
  exact S_reg C (by decide) h (fun j r σ1 hj hG => RR_n (by decide) (L_4 C (Or.inl rfl) hj hG hw)) (fun F v σ1 hF hS => FS_longs_r hF hS _ _ _ _)
theorem L_5 (C : Cx N X σ0 Λ ln cur start) {ts : List AT} {B : List Int32} {σ : MS} {w : Int32} (h : GR X σ0 ts B σ) (hw : w &&& 3 = 3) : RR (M_longs N 5 w σ) (fun _ σ' => OutS X Λ σ0 ln start (shp [98, 44, 111, 40, 97, 41] ts w 0 []) B σ') := by
  unfold M_longs
  refine S_reg C (by decide) h (fun j r σ1 hj hG => RR_n (by decide) ?_) (fun F v σ1 hF hS => FS_longs_r hF hS _ _ _ _)
  unfold M_longs_40
  refine RR_n (by decide) (S_comma C hG (fun r2 σ2 hG2 => RR_n (by decide) (RR_y rfl ?_)))
  refine L_81 C hG2 (Or.inr rfl) (fun R r v m dd σ1 j2 hj2 ev hn hG => ?_)
  unfold M_longs_109 M_longs_171 M_longs_384
  refine RR_y rfl (RR_cr (bits_pic v (b := 7) 5 7 (by decide) (by decide) (by decide) (by decide) (by decide)) (RR_cr (bits_pic v (b := 5) 0 5 (by decide) (by decide) (by decide) (by decide) (by decide)) (RR_then (Out_w hG (len_w (by decide) ?_) ?_ (fun _ => ?_)) (fun _ _ h2 => RR_ret h2))))
  · rw [low2r _ (rb_pos j2 hj2 _ (by decide)), low2r _ (rb_pos j hj _ (by decide)), hw]
  · unfold ckS
    rw [ev]
    simp only []
    rw [numI_111, fitB_111, ← fitR_1]
    exact hn
  · rw [ev]
    simp only []
    rw [numI_111, scat_111, rb_98, rb_97]
    exact or_5 _ _ _ _ _
theorem L_30 (C : Cx N X σ0 Λ ln cur start) {ts : List AT} {B : List Int32} {σ : MS} {w : Int32} (h : GR X σ0 ts B σ) (hw : w &&& 3 = 3) (hw2 : (w ||| 128) &&& 3 = 3) : RR (M_longs N 30 w σ) (fun _ σ' => OutS X Λ σ0 ln start (if atE ts.tail = true then shp [97] ts (w ||| 128) 0 [] else shp [100, 44, 105, 40, 97, 41] ts w 0 []) B σ') := by
  unfold M_longs
  refine RR_then (G_taken C h) (fun v σ1 h1 => RR_y rfl ?_)
  rcases h1 with ⟨e1, e2, e3⟩ | ⟨e1, e2, e3⟩
  · obtain ⟨j, j1, j2⟩ := tkR_n e1
    have et : (tkR ts).2.2 = ts.tail := by
      cases ts with
      | nil => exact absurd e1 (by decide)
      | cons a r =>
        have e : tkR (a :: r) = if a.k = 0 ∨ a.k = 1 then (1, 0, []) else if a.k = 2 ∧ 0 ≤ regR a.nm then (0, regR a.nm, r) else (3, 0, []) := rfl
        rw [e] at e1 ⊢
        split
        · rename_i c; rw [if_pos c] at e1; exact absurd e1 (by decide)
        · rename_i c
          rw [if_neg c] at e1
          split
          · rfl
          · rename_i d; rw [if_neg d] at e1; exact absurd e1 (by decide)
    have er : ∀ c ∈ ([100, 97, 98, 115] : List Int32), regT c ts = (0, rb c (nI j), ts.tail) := by
      intro c hc
      unfold regT
      rw [if_neg (fun z => z e1), j2, if_neg (rb_pos j j1 c hc), et]
    refine RR_y (by rw [e3.f.1 14 (by decide)]; exact C.2.2.2.2.2.2.2.2.2) (RR_then (G_isEnd C e3) (fun x σ2 h2 => ?_))
    obtain ⟨x1, x2⟩ := h2
    rw [et] at x1 x2
    rw [e2, j2]
    cases hE : atE ts.tail with
    | true =>
      rw [hE] at x1
      refine RR_n (by rw [x1]; decide) ?_
      rw [if_pos rfl]
      simp only [shp]
      rw [if_neg (by decide), if_pos (by decide), er 97 (by decide), if_pos rfl]
      refine RR_then (E_w x2 ?_ ?_) (fun _ _ h2 => RR_ret h2)
      · rw [low2r _ (rb_pos j j1 _ (by decide)), hw2]
      · rw [rb_97]
    | false =>
      rw [hE] at x1
      refine RR_y x1 ?_
      rw [if_neg (by decide)]
      have es : shp [100, 44, 105, 40, 97, 41] ts w 0 [] = shp [44, 105, 40, 97, 41] ts.tail (w ||| rb 100 (nI j)) 0 [] := by
        rw [shp, if_neg (by decide), if_pos (by decide), er 100 (by decide), if_pos rfl]
      rw [es]
      exact L_4 C (Or.inr rfl) j1 x2 hw
  · have er : ∀ c, regT c ts = ((tkR ts).1, 0, []) := by
      intro c
      unfold regT
      rw [if_pos e1]
    have e0 : (if atE ts.tail = true then shp [97] ts (w ||| 128) 0 [] else shp [100, 44, 105, 40, 97, 41] ts w 0 []).1 = (tkR ts).1 := by
      split
      · rw [shp, if_neg (by decide), if_pos (by decide), er, if_neg e1]
      · rw [shp, if_neg (by decide), if_pos (by decide), er, if_neg e1]
    refine RR_n (by rw [e3.2.2]; exact fl_ne0 C ⟨by omega, tkR_le ts⟩) (RR_imp (FS_longs_40 (fl_ne0 C ⟨by omega, tkR_le ts⟩) e3 _ _ _) (fun _ σ' h' => Out_f e0 e1 h'))
end
