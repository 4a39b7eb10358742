/-! ===== an item's steps come to the same ===== -/
section
variable {N : Nat} {X : List Int32} {ns : List (List Int32)} {Y K V so va op re od : List Int32} {sP sI0 sI sN sF sT : CS} {E : List Ev} {x y : Nat}
def Same4 (sI0 sI : CS) : Prop := (∀ q j, j ≠ 4 → sI.2.1 q j = sI0.2.1 q j) ∧ sI.2.2 = sI0.2.2
theorem adrC_same (h : Same4 sI0 sI) (cnt : Nat) (z : Int32) : adrC sP sI cnt z = adrC sP sI0 cnt z := by
  unfold adrC
  rw [h.1 _ 1 (by decide), h.1 _ 5 (by decide)]
theorem mdF_z {m d : Bool} (h : nI (mdF m d) = 0) : m = false ∧ d = false := by
  cases m <;> cases d
  · exact ⟨rfl, rfl⟩
  · exact absurd h (by decide)
  · exact absurd h (by decide)
  · exact absurd h (by decide)
theorem C_evIt (hN : 70000 < N) (h : PRG X ns Y K V so va E sP sI0) (hs : Same4 sI0 sI) (hNL : NmS sN ns so va op re od) (h20 : sP.2.2 20 = 10) (hK : K.length ≤ 60000) {S Z : List Int32} (hF : FR4 sF K V S Z) {E1 E2 : List Ev} {e : Ev} (hE : E = E1 ++ e :: E2) (h5 : e.1 = 5) {j : Nat} {it : AI} (hj : e.2.2.2.2.2[j]? = some it) (hR : RG X it.2.2.2.1) :
    RC (fp sF x y) (C_Frm_evaluate N (sI.2.1 (cI E1 + j + 1) 7) (sI.2.1 (cI E1 + j + 1) 8) (sI.2.1 (cI E1 + j + 1) 6) sF sN sT sP sI) (fun r sF' c => c = fp sF' x y ∧ (∃ Z', FR4 sF' K V S Z') ∧ r = nI (mdF (evV (ηE X E (lay (0, 0) E1) e) it.2.2.2.1).2.1 (evV (ηE X E (lay (0, 0) E1) e) it.2.2.2.1).2.2) ∧ (r = 0 → sF'.1 1 = (evV (ηE X E (lay (0, 0) E1) e) it.2.2.2.1).1)) := by
  have h' := h
  obtain ⟨hX, hW, hNm, hPr, hL, hc, hPl⟩ := h
  obtain ⟨i1, i2, i3, i4, i5, i6, i7, A, KK, B, A', VV, B', s1, s2, s3, s4, s5, s6⟩ := (hPr.2 E1 e E2 hE).1 h5 j it hj
  have hLs : LOk sI (cI E) := by unfold LOk; rw [hs.2]; exact hL
  rw [hs.1 _ 7 (by decide), hs.1 _ 8 (by decide), hs.1 _ 6 (by decide), s4, s5, i5]
  have hAd : ∀ z, C_Prg_addressOf z sP sI = some (adrC sP sI0 (cI E) z) := fun z => by rw [C_addr hc hLs z, adrC_same hs]
  have hWd : ∀ z, ∃ r, C_Prg_find z sP sI = some r ∧ r < sI.2.2 0 + 1 ∧ sI.2.1 r 3 = (fun z => sI0.2.1 (fnI (cI E) z) 3) z := fun z => by
    obtain ⟨f1, f2⟩ := C_find hc hLs z
    exact ⟨_, f1, f2, hs.1 _ 3 (by decide)⟩
  have hlenK : A.length + KK.length ≤ 60000 := by
    rw [s1] at hK
    simp only [List.length_append] at hK
    omega
  have hne : e.2.2.2.2.2 ≠ [] := by intro z; rw [z, List.getElem?_nil] at hj; cases hj
  have hag := env_ag h' hNL.1.small.1 hE h5 hne hR.2.2
  obtain ⟨a1, a2, a3⟩ := evV_agree s6 hag
  rw [s1, s2] at hF
  refine RC_imp (C_evaluate hN hNL.1 hAd hWd h20 s3 hlenK s6 hR.1 hR.2.1 hF) (fun r sF' c hu => ?_)
  obtain ⟨u1, u2, u3, u4, -⟩ := hu
  refine ⟨u1, by rw [s1, s2]; exact u2, u4.trans (by rw [a3]), fun hr => ?_⟩
  rw [u3]
  rw [u4, a3] at hr
  rw [a2 (mdF_z hr).1]
end
