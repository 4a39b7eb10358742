/-! ===== what a statement is: its items ===== -/
/-- mark, word, length, steps, letters -/
abbrev AI : Type := Int32 × Int32 × Nat × List XSt × List Int32
def isJ (mk : Int32) : Bool := decide (mk = 120 ∨ mk = 122 ∨ mk = 116)
def sI (s : SR) : List AI := [(s.2.2.1, s.2.1, (len0 s.2.2.1 s.2.1).toNatClampNeg, s.2.2.2.1, [])]
def ilens (l : List AI) : Nat := (l.map (fun i => i.2.2.1)).sum
def srO (o : OD) (ts : List AT) : SR := if o.1 = 9 then (if isReg ts = true then shp [100, 44, 106] ts o.2.2 0 [] else shp [120] ts (o.2.2 ||| 128) 0 []) else if o.1 = 10 then (if atE ts.tail = true then shp [97] ts (o.2.2 ||| 128) 0 [] else shp [100, 44, 105, 40, 97, 41] ts o.2.2 0 []) else shp o.2.1 ts o.2.2 0 []
abbrev BR : Type := Nat × List AI × List AT
/-- a statement behind its mnemonic: fault, items, what is left -/
def stm (η : Int32 → AT → Int32 × Bool) (lo : AT → Bool) (tk : List Int32 → Bool) (o : OD) (ts : List AT) : BR :=
  if o.1 = 1 ∨ o.1 = 2 then (0, [], ts)
  else if o.1 = 3 then ((eqT η lo tk ts).1, [], (eqT η lo tk ts).2.2.2)
  else if o.1 = 4 then ((nmT ts.length ts).1, (nmT ts.length ts).2.1.map (fun R => (61, 0, o.2.2.toNatClampNeg, R, [])), (nmT ts.length ts).2.2)
  else if o.1 = 5 then ((stT ts.length ts).1, (stT ts.length ts).2.1.map (fun s => (4, 0, s.length + o.2.2.toNatClampNeg, [], s)), (stT ts.length ts).2.2)
  else if o.1 = 6 then ((f1T η lo 0 32768 ts).1, [(2, 0, (f1T η lo 0 32768 ts).2.1.toNatClampNeg, [], [])], (f1T η lo 0 32768 ts).2.2)
  else if o.1 = 7 then ((f1T η lo 0 10 ts).1, [(3, (f1T η lo 0 10 ts).2.1, 0, [], [])], (f1T η lo 0 10 ts).2.2)
  else if o.1 = 8 then ((ldT η lo ts).1, (liI (ldT η lo ts).2.1 (ldT η lo ts).2.2.1).map (fun x => (0, x.1, x.2, [], [])), (ldT η lo ts).2.2.2)
  else ((srO o ts).1, sI (srO o ts), (srO o ts).2.2.2.2)
theorem shp_mk : ∀ (sh : List Int32) (ts : List AT) (w q : Int32) (R : List XSt), (shp sh ts w q R).2.2.1 = q ∨ (shp sh ts w q R).2.2.1 ∈ sh
  | [], ts, w, q, R => Or.inl rfl
  | c :: sh, ts, w, q, R => by
    have up : ∀ ts' w' q' R', (q' = q ∨ q' = c) → ((shp sh ts' w' q' R').2.2.1 = q ∨ (shp sh ts' w' q' R').2.2.1 ∈ c :: sh) := by
      intro ts' w' q' R' hq
      rcases shp_mk sh ts' w' q' R' with h | h
      · rcases hq with e | e
        · exact Or.inl (h.trans e)
        · exact Or.inr (by rw [h, e]; exact List.mem_cons_self ..)
      · exact Or.inr (List.mem_cons_of_mem _ h)
    simp only [shp]
    split
    · split
      · exact up _ _ _ _ (Or.inl rfl)
      · exact Or.inl rfl
    · split
      · split
        · exact up _ _ _ _ (Or.inl rfl)
        · exact Or.inl rfl
      · split
        · exact up _ _ _ _ (Or.inr rfl)
        · exact Or.inl rfl
theorem shp_mk2 : ∀ (sh : List Int32) (ts : List AT) (w q : Int32) (R : List XSt), ((shp sh ts w q R).2.2.1 = q ∧ (shp sh ts w q R).2.2.2.1 = R) ∨ (shp sh ts w q R).2.2.1 ∈ sh
  | [], ts, w, q, R => Or.inl ⟨rfl, rfl⟩
  | c :: sh, ts, w, q, R => by
    simp only [shp]
    split
    · split
      · rcases shp_mk2 sh _ w q R with h | h
        · exact Or.inl h
        · exact Or.inr (List.mem_cons_of_mem _ h)
      · exact Or.inl ⟨rfl, rfl⟩
    · split
      · split
        · rcases shp_mk2 sh _ _ q R with h | h
          · exact Or.inl h
          · exact Or.inr (List.mem_cons_of_mem _ h)
        · exact Or.inl ⟨rfl, rfl⟩
      · split
        · rename_i x _
          rcases shp_mk2 sh x.2 w c (R ++ x.1) with h | h
          · exact Or.inr (by rw [h.1]; exact List.mem_cons_self ..)
          · exact Or.inr (List.mem_cons_of_mem _ h)
        · exact Or.inl ⟨rfl, rfl⟩
def oneX (sh : List Int32) : Bool := lastJ sh || decide (sh.getLastD 0 = 64) || sh.all (fun c => !(isJ c) && decide (c ≠ 64) && decide (c ≠ 61) && decide (4 < c))
def roleOk (r : Int32) : Bool := decide (r ∈ ([0, 1, 2, 3, 4, 5, 6, 7, 8, 9, 10] : List Int32))
theorem od_ok (s w : Int32) : oneX (od s w).2.1 = true ∧ roleOk (od s w).1 = true := by
  unfold od
  by_cases c1 : s = 1
  · rw [if_pos c1]; exact ⟨rfl, rfl⟩
  rw [if_neg c1]
  by_cases c2 : s = 2
  · rw [if_pos c2]; exact ⟨rfl, rfl⟩
  rw [if_neg c2]
  by_cases c3 : s = 3
  · rw [if_pos c3]; exact ⟨rfl, rfl⟩
  rw [if_neg c3]
  by_cases c4 : s = 4
  · rw [if_pos c4]; exact ⟨rfl, rfl⟩
  rw [if_neg c4]
  by_cases c5 : s = 5
  · rw [if_pos c5]; exact ⟨rfl, rfl⟩
  rw [if_neg c5]
  by_cases c6 : s = 6
  · rw [if_pos c6]; exact ⟨rfl, rfl⟩
  rw [if_neg c6]
  by_cases c7 : s = 7
  · rw [if_pos c7]; exact ⟨rfl, rfl⟩
  rw [if_neg c7]
  by_cases c8 : s = 8
  · rw [if_pos c8]; exact ⟨rfl, rfl⟩
  rw [if_neg c8]
  by_cases c9 : s = 9
  · rw [if_pos c9]; exact ⟨rfl, rfl⟩
  rw [if_neg c9]
  by_cases c10 : s = 10
  · rw [if_pos c10]; exact ⟨rfl, rfl⟩
  rw [if_neg c10]
  by_cases c11 : s = 11
  · rw [if_pos c11]; exact ⟨rfl, rfl⟩
  rw [if_neg c11]
  by_cases c12 : s = 12
  · rw [if_pos c12]; exact ⟨rfl, rfl⟩
  rw [if_neg c12]
  by_cases c13 : s = 13
  · rw [if_pos c13]; exact ⟨rfl, rfl⟩
  rw [if_neg c13]
  by_cases c14 : s = 14
  · rw [if_pos c14]; exact ⟨rfl, rfl⟩
  rw [if_neg c14]
  by_cases c16 : s = 16
  · rw [if_pos c16]; exact ⟨rfl, rfl⟩
  rw [if_neg c16]
  by_cases c17 : s = 17
  · rw [if_pos c17]; exact ⟨rfl, rfl⟩
  rw [if_neg c17]
  by_cases c18 : s = 18
  · rw [if_pos c18]; exact ⟨rfl, rfl⟩
  rw [if_neg c18]
  by_cases c19 : s = 19
  · rw [if_pos c19]; exact ⟨rfl, rfl⟩
  rw [if_neg c19]
  by_cases c20 : s = 20
  · rw [if_pos c20]; exact ⟨rfl, rfl⟩
  rw [if_neg c20]
  by_cases c21 : s = 21
  · rw [if_pos c21]; exact ⟨rfl, rfl⟩
  rw [if_neg c21]
  by_cases c22 : s = 22
  · rw [if_pos c22]; exact ⟨rfl, rfl⟩
  rw [if_neg c22]
  by_cases c23 : s = 23
  · rw [if_pos c23]; exact ⟨rfl, rfl⟩
  rw [if_neg c23]
  by_cases c24 : s = 24
  · rw [if_pos c24]; exact ⟨rfl, rfl⟩
  rw [if_neg c24]
  by_cases c25 : s = 25
  · rw [if_pos c25]; exact ⟨rfl, rfl⟩
  rw [if_neg c25]
  by_cases c26 : s = 26
  · rw [if_pos c26]; exact ⟨rfl, rfl⟩
  rw [if_neg c26]
  by_cases c27 : s = 27
  · rw [if_pos c27]; exact ⟨rfl, rfl⟩
  rw [if_neg c27]
  by_cases c28 : s = 28
  · rw [if_pos c28]; exact ⟨rfl, rfl⟩
  rw [if_neg c28]
  by_cases c29 : s = 29
  · rw [if_pos c29]; exact ⟨rfl, rfl⟩
  rw [if_neg c29]
  by_cases c30 : s = 30
  · rw [if_pos c30]; exact ⟨rfl, rfl⟩
  rw [if_neg c30]
  by_cases c31 : s = 31
  · rw [if_pos c31]; exact ⟨rfl, rfl⟩
  rw [if_neg c31]
  by_cases c32 : s = 32
  · rw [if_pos c32]; exact ⟨rfl, rfl⟩
  rw [if_neg c32]
  by_cases c33 : s = 33
  · rw [if_pos c33]; exact ⟨rfl, rfl⟩
  rw [if_neg c33]
  by_cases c34 : s = 34
  · rw [if_pos c34]; exact ⟨rfl, rfl⟩
  rw [if_neg c34]
  by_cases c35 : s = 35
  · rw [if_pos c35]
    by_cases z : w = 99 ∨ w = 4195
    · rw [if_pos z]; exact ⟨rfl, rfl⟩
    · rw [if_neg z]; exact ⟨rfl, rfl⟩
  rw [if_neg c35]
  by_cases c36 : s = 36
  · rw [if_pos c36]; exact ⟨rfl, rfl⟩
  rw [if_neg c36]
  by_cases c37 : s = 37
  · rw [if_pos c37]; exact ⟨rfl, rfl⟩
  rw [if_neg c37]
  by_cases c38 : s = 38
  · rw [if_pos c38]; exact ⟨rfl, rfl⟩
  rw [if_neg c38]
  by_cases c39 : s = 39
  · rw [if_pos c39]; exact ⟨rfl, rfl⟩
  rw [if_neg c39]
  by_cases c40 : s = 40
  · rw [if_pos c40]; exact ⟨rfl, rfl⟩
  rw [if_neg c40]
  by_cases c41 : s = 41
  · rw [if_pos c41]; exact ⟨rfl, rfl⟩
  rw [if_neg c41]
  by_cases c42 : s = 42
  · rw [if_pos c42]; exact ⟨rfl, rfl⟩
  rw [if_neg c42]
  by_cases c43 : s = 43
  · rw [if_pos c43]; exact ⟨rfl, rfl⟩
  rw [if_neg c43]
  by_cases c44 : s = 44
  · rw [if_pos c44]; exact ⟨rfl, rfl⟩
  rw [if_neg c44]
  by_cases c45 : s = 45
  · rw [if_pos c45]; exact ⟨rfl, rfl⟩
  rw [if_neg c45]
  by_cases c46 : s = 46
  · rw [if_pos c46]; exact ⟨rfl, rfl⟩
  rw [if_neg c46]
  by_cases c47 : s = 47
  · rw [if_pos c47]; exact ⟨rfl, rfl⟩
  rw [if_neg c47]
  by_cases c48 : s = 48
  · rw [if_pos c48]; exact ⟨rfl, rfl⟩
  rw [if_neg c48]
  by_cases c49 : s = 49
  · rw [if_pos c49]; exact ⟨rfl, rfl⟩
  rw [if_neg c49]
  exact ⟨rfl, rfl⟩
theorem od5 (s w : Int32) : (od s w).1 = 5 → ((od s w).2.2 = 0 ∨ (od s w).2.2 = 1) := by
  unfold od
  by_cases c1 : s = 1
  · rw [if_pos c1]; exact fun h => absurd (show (0 : Int32) = 5 from h) (by decide)
  rw [if_neg c1]
  by_cases c2 : s = 2
  · rw [if_pos c2]; exact fun h => absurd (show (0 : Int32) = 5 from h) (by decide)
  rw [if_neg c2]
  by_cases c3 : s = 3
  · rw [if_pos c3]; exact fun h => absurd (show (0 : Int32) = 5 from h) (by decide)
  rw [if_neg c3]
  by_cases c4 : s = 4
  · rw [if_pos c4]; exact fun h => absurd (show (0 : Int32) = 5 from h) (by decide)
  rw [if_neg c4]
  by_cases c5 : s = 5
  · rw [if_pos c5]; exact fun h => absurd (show (0 : Int32) = 5 from h) (by decide)
  rw [if_neg c5]
  by_cases c6 : s = 6
  · rw [if_pos c6]; exact fun h => absurd (show (0 : Int32) = 5 from h) (by decide)
  rw [if_neg c6]
  by_cases c7 : s = 7
  · rw [if_pos c7]; exact fun h => absurd (show (0 : Int32) = 5 from h) (by decide)
  rw [if_neg c7]
  by_cases c8 : s = 8
  · rw [if_pos c8]; exact fun h => absurd (show (9 : Int32) = 5 from h) (by decide)
  rw [if_neg c8]
  by_cases c9 : s = 9
  · rw [if_pos c9]; exact fun h => absurd (show (0 : Int32) = 5 from h) (by decide)
  rw [if_neg c9]
  by_cases c10 : s = 10
  · rw [if_pos c10]; exact fun h => absurd (show (0 : Int32) = 5 from h) (by decide)
  rw [if_neg c10]
  by_cases c11 : s = 11
  · rw [if_pos c11]; exact fun h => absurd (show (0 : Int32) = 5 from h) (by decide)
  rw [if_neg c11]
  by_cases c12 : s = 12
  · rw [if_pos c12]; exact fun h => absurd (show (0 : Int32) = 5 from h) (by decide)
  rw [if_neg c12]
  by_cases c13 : s = 13
  · rw [if_pos c13]; exact fun h => absurd (show (0 : Int32) = 5 from h) (by decide)
  rw [if_neg c13]
  by_cases c14 : s = 14
  · rw [if_pos c14]; exact fun h => absurd (show (0 : Int32) = 5 from h) (by decide)
  rw [if_neg c14]
  by_cases c16 : s = 16
  · rw [if_pos c16]; exact fun h => absurd (show (0 : Int32) = 5 from h) (by decide)
  rw [if_neg c16]
  by_cases c17 : s = 17
  · rw [if_pos c17]; exact fun h => absurd (show (0 : Int32) = 5 from h) (by decide)
  rw [if_neg c17]
  by_cases c18 : s = 18
  · rw [if_pos c18]; exact fun h => absurd (show (0 : Int32) = 5 from h) (by decide)
  rw [if_neg c18]
  by_cases c19 : s = 19
  · rw [if_pos c19]; exact fun h => absurd (show (0 : Int32) = 5 from h) (by decide)
  rw [if_neg c19]
  by_cases c20 : s = 20
  · rw [if_pos c20]; exact fun h => absurd (show (0 : Int32) = 5 from h) (by decide)
  rw [if_neg c20]
  by_cases c21 : s = 21
  · rw [if_pos c21]; exact fun h => absurd (show (0 : Int32) = 5 from h) (by decide)
  rw [if_neg c21]
  by_cases c22 : s = 22
  · rw [if_pos c22]; exact fun h => absurd (show (0 : Int32) = 5 from h) (by decide)
  rw [if_neg c22]
  by_cases c23 : s = 23
  · rw [if_pos c23]; exact fun h => absurd (show (0 : Int32) = 5 from h) (by decide)
  rw [if_neg c23]
  by_cases c24 : s = 24
  · rw [if_pos c24]; exact fun h => absurd (show (0 : Int32) = 5 from h) (by decide)
  rw [if_neg c24]
  by_cases c25 : s = 25
  · rw [if_pos c25]; exact fun h => absurd (show (0 : Int32) = 5 from h) (by decide)
  rw [if_neg c25]
  by_cases c26 : s = 26
  · rw [if_pos c26]; exact fun h => absurd (show (0 : Int32) = 5 from h) (by decide)
  rw [if_neg c26]
  by_cases c27 : s = 27
  · rw [if_pos c27]; exact fun h => absurd (show (0 : Int32) = 5 from h) (by decide)
  rw [if_neg c27]
  by_cases c28 : s = 28
  · rw [if_pos c28]; exact fun h => absurd (show (0 : Int32) = 5 from h) (by decide)
  rw [if_neg c28]
  by_cases c29 : s = 29
  · rw [if_pos c29]; exact fun h => absurd (show (0 : Int32) = 5 from h) (by decide)
  rw [if_neg c29]
  by_cases c30 : s = 30
  · rw [if_pos c30]; exact fun h => absurd (show (10 : Int32) = 5 from h) (by decide)
  rw [if_neg c30]
  by_cases c31 : s = 31
  · rw [if_pos c31]; exact fun h => absurd (show (0 : Int32) = 5 from h) (by decide)
  rw [if_neg c31]
  by_cases c32 : s = 32
  · rw [if_pos c32]; exact fun h => absurd (show (0 : Int32) = 5 from h) (by decide)
  rw [if_neg c32]
  by_cases c33 : s = 33
  · rw [if_pos c33]; exact fun h => absurd (show (0 : Int32) = 5 from h) (by decide)
  rw [if_neg c33]
  by_cases c34 : s = 34
  · rw [if_pos c34]; exact fun h => absurd (show (0 : Int32) = 5 from h) (by decide)
  rw [if_neg c34]
  by_cases c35 : s = 35
  · rw [if_pos c35]
    by_cases z : w = 99 ∨ w = 4195
    · rw [if_pos z]; exact fun h => absurd (show (0 : Int32) = 5 from h) (by decide)
    · rw [if_neg z]; exact fun h => absurd (show (0 : Int32) = 5 from h) (by decide)
  rw [if_neg c35]
  by_cases c36 : s = 36
  · rw [if_pos c36]; exact fun h => absurd (show (0 : Int32) = 5 from h) (by decide)
  rw [if_neg c36]
  by_cases c37 : s = 37
  · rw [if_pos c37]; exact fun h => absurd (show (0 : Int32) = 5 from h) (by decide)
  rw [if_neg c37]
  by_cases c38 : s = 38
  · rw [if_pos c38]; exact fun h => absurd (show (0 : Int32) = 5 from h) (by decide)
  rw [if_neg c38]
  by_cases c39 : s = 39
  · rw [if_pos c39]; exact fun h => absurd (show (8 : Int32) = 5 from h) (by decide)
  rw [if_neg c39]
  by_cases c40 : s = 40
  · rw [if_pos c40]; exact fun h => absurd (show (1 : Int32) = 5 from h) (by decide)
  rw [if_neg c40]
  by_cases c41 : s = 41
  · rw [if_pos c41]; exact fun h => absurd (show (2 : Int32) = 5 from h) (by decide)
  rw [if_neg c41]
  by_cases c42 : s = 42
  · rw [if_pos c42]; exact fun h => absurd (show (3 : Int32) = 5 from h) (by decide)
  rw [if_neg c42]
  by_cases c43 : s = 43
  · rw [if_pos c43]; exact fun h => absurd (show (4 : Int32) = 5 from h) (by decide)
  rw [if_neg c43]
  by_cases c44 : s = 44
  · rw [if_pos c44]; exact fun h => absurd (show (4 : Int32) = 5 from h) (by decide)
  rw [if_neg c44]
  by_cases c45 : s = 45
  · rw [if_pos c45]; exact fun h => absurd (show (4 : Int32) = 5 from h) (by decide)
  rw [if_neg c45]
  by_cases c46 : s = 46
  · rw [if_pos c46]; exact fun _ => Or.inl rfl
  rw [if_neg c46]
  by_cases c47 : s = 47
  · rw [if_pos c47]; exact fun _ => Or.inr rfl
  rw [if_neg c47]
  by_cases c48 : s = 48
  · rw [if_pos c48]; exact fun h => absurd (show (6 : Int32) = 5 from h) (by decide)
  rw [if_neg c48]
  by_cases c49 : s = 49
  · rw [if_pos c49]; exact fun h => absurd (show (7 : Int32) = 5 from h) (by decide)
  rw [if_neg c49]
  exact fun h => absurd (show (0 : Int32) = 5 from h) (by decide)
theorem noJ {sh : List Int32} {ts : List AT} {w : Int32} (h : sh.all (fun c => !(isJ c) && decide (c ≠ 64) && decide (c ≠ 61) && decide (4 < c)) = true) : isJ (shp sh ts w 0 []).2.2.1 = false ∧ (shp sh ts w 0 []).2.2.1 ≠ 64 := by
  rcases shp_mk sh ts w 0 [] with e | e
  · rw [e]; decide
  · have := List.all_eq_true.mp h _ e
    simp only [Bool.and_eq_true, Bool.not_eq_true', decide_eq_true_eq] at this
    exact this.1.1
theorem noJ3 {sh : List Int32} {ts : List AT} {w : Int32} (h : sh.all (fun c => !(isJ c) && decide (c ≠ 64) && decide (c ≠ 61) && decide (4 < c)) = true) : ((shp sh ts w 0 []).2.2.1 = 0 ∧ (shp sh ts w 0 []).2.2.2.1 = []) ∨ ((shp sh ts w 0 []).2.2.1 ≠ 61 ∧ 4 < (shp sh ts w 0 []).2.2.1) := by
  rcases shp_mk2 sh ts w 0 [] with e | e
  · exact Or.inl e
  · have := List.all_eq_true.mp h _ e
    simp only [Bool.and_eq_true, Bool.not_eq_true', decide_eq_true_eq] at this
    exact Or.inr ⟨this.1.2, this.2⟩
/-- one expression and it is the last: the mark -/
theorem mkLast : ∀ (sh : List Int32) (ts : List AT) (w q : Int32) (R : List XSt), sh ≠ [] → ¬ (sh.getLastD 0 = 44 ∨ sh.getLastD 0 = 40 ∨ sh.getLastD 0 = 41) → isRM (sh.getLastD 0) = false → (shp sh ts w q R).1 = 0 → (shp sh ts w q R).2.2.1 = sh.getLastD 0
  | [], ts, w, q, R, h, _, _, _ => absurd rfl h
  | [c], ts, w, q, R, _, h1, h2, h3 => by
    have h1' : ¬ (c = 44 ∨ c = 40 ∨ c = 41) := h1
    have h2' : isRM c = false := h2
    rw [shp, if_neg h1', if_neg (by rw [h2']; decide)] at h3 ⊢
    cases hc : cmpT ts with
    | none => rw [hc] at h3; exact absurd (show (1 : Nat) = 0 from h3) (by decide)
    | some x => rfl
  | c :: d :: sh, ts, w, q, R, _, h1, h2, h3 => by
    have up : ∀ ts' w' q' R', (shp (d :: sh) ts' w' q' R').1 = 0 → (shp (d :: sh) ts' w' q' R').2.2.1 = (d :: sh).getLastD 0 := fun ts' w' q' R' h => mkLast (d :: sh) ts' w' q' R' (by simp) h1 h2 h
    rw [shp] at h3 ⊢
    split at h3
    · rename_i c1
      rw [if_pos c1]
      split at h3
      · exact up _ _ _ _ h3
      · exact absurd (show (1 : Nat) = 0 from h3) (by decide)
    · rename_i c1
      rw [if_neg c1]
      split at h3
      · rename_i c2
        rw [if_pos c2]
        split at h3
        · rename_i c3; rw [if_pos c3]; exact up _ _ _ _ h3
        · rename_i c3; exact absurd h3 c3
      · rename_i c2
        rw [if_neg c2]
        split at h3
        · exact up _ _ _ _ h3
        · exact absurd (show (1 : Nat) = 0 from h3) (by decide)
