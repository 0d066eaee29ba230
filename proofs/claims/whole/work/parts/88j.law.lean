/-! THE LAW'S LOOP -/
theorem stop_no {L i : Nat} (hL : L ≤ 3072) (hi : i < 2147483648) (h : ¬ ((Int32.ofNat L) - 6) < nI i) : i + 6 ≤ L := by
  have e6 : (6 : Int32) = nI 6 := rfl
  have eL : Int32.ofNat L = nI L := rfl
  rcases Nat.lt_or_ge L 6 with g | g
  · exfalso
    apply h
    have hneg : ∀ L, L < 6 → (nI L - 6) < 0 := by decide
    have h1 := hneg L g
    rw [eL]
    rw [Int32.lt_iff_toInt_lt] at h1 ⊢
    rw [nI_toInt hi]
    have e0 : (0 : Int32).toInt = 0 := rfl
    omega
  · rw [eL, e6, nI_sub g, nI_lt_iff (by omega) hi] at h
    omega
theorem law_loop (xs : Nat → Int32) (L : Nat) (hL : L ≤ 3072) : ∀ (fuel i : Nat) (M : xM), i ≤ L → L < i + 6 * fuel → Rel M → fL_law_18 xs L fuel (nI i) M = some 1 := by
  intro fuel
  induction fuel with
  | zero => intro i M h1 h2; omega
  | succ f ih =>
    intro i M h1 h2 hR
    rw [fL_law_18_s]
    by_cases hst : ((Int32.ofNat L) - 6) < nI i
    · rw [if_pos hst]
    · have h6 := stop_no hL (by omega) hst
      have nx : ∀ M', Rel M' → fL_law_18 xs L f (nI i + 6) M' = some 1 := fun M' h' => by
        have e6 : (6 : Int32) = nI 6 := rfl
        rw [e6, nI_plus]
        exact ih (i + 6) M' h6 (by omega) h'
      have x0 : xin (nI i) L := xin_of (by omega) (by omega)
      have ad : ∀ k, k < 6 → xin (nI i + nI k) L := fun k hk => by rw [nI_plus]; exact xin_of (by omega) (by omega)
      have x1 : xin (nI i + 1) L := ad 1 (by omega)
      have x2 : xin (nI i + 2) L := ad 2 (by omega)
      have x3 : xin (nI i + 3) L := ad 3 (by omega)
      have x4 : xin (nI i + 4) L := ad 4 (by omega)
      have x5 : xin (nI i + 5) L := ad 5 (by omega)
      rw [if_neg hst, if_pos x0, xlt_def]
      obtain ⟨y, ey⟩ : ∃ y, y = xs (nI i).toNatClampNeg &&& 31 := ⟨_, rfl⟩
      rw [← ey]
      obtain ⟨ct, sg, n, T, tx, st, en, SA, rk, cp, cl, m, pt, a1, a2, a3, a4, a5, a6, a7⟩ := id hR
      by_cases y0 : y = 0
      · rw [if_pos y0]
        obtain ⟨r, M1, M2, ct2, sg2, e1, e2, b1, b2, b3⟩ := add_ok a1 a2 (xs (nI i + 1).toNatClampNeg) (xs (nI i + 2).toNatClampNeg) (xs (nI i + 3).toNatClampNeg) (xs (nI i + 4).toNatClampNeg) (xs (nI i + 5).toNatClampNeg)
        simp only [if_pos x1, if_pos x2, if_pos x3, if_pos x4, if_pos x5, if_true, e1, e2, Option.bind_some, fL_law_827_s, nx M2 (hR.texts b1 b2 b3)]
      rw [if_neg y0]
      by_cases y1 : y = 1
      · rw [if_pos y1]
        obtain ⟨r, M1, M2, ct2, e1, e2, b1, b2, b3⟩ := cut_ok a1 a2 (xs (nI i + 1).toNatClampNeg) (xs (nI i + 2).toNatClampNeg)
        simp only [if_pos x1, if_pos x2, if_pos x3, if_pos x4, if_pos x5, if_true, e1, e2, Option.bind_some, fL_law_827_s, nx M2 (hR.texts b1 b2 b3)]
      rw [if_neg y1]
      by_cases y2 : y = 2
      · rw [if_pos y2]
        obtain ⟨r, M1, M2, e1, e2, b1⟩ := build_ok hR
        simp only [if_pos x1, if_pos x2, if_pos x3, if_pos x4, if_pos x5, if_true, e1, e2, Option.bind_some, fL_law_827_s, nx M2 b1]
      rw [if_neg y2]
      by_cases y3 : y = 3
      · rw [if_pos y3]
        obtain ⟨r, e1, e2⟩ := sign_ok a3 a4 (xs (nI i + 1).toNatClampNeg)
        simp only [if_pos x1, if_pos x2, if_pos x3, if_pos x4, if_pos x5, if_true, e1, e2, Option.bind_some, fL_law_827_s, nx M hR]
      rw [if_neg y3]
      by_cases y4 : y = 4
      · rw [if_pos y4]
        obtain ⟨r, e1, e2⟩ := text_ok a3 a4 (xs (nI i + 1).toNatClampNeg) (xs (nI i + 2).toNatClampNeg)
        simp only [if_pos x1, if_pos x2, if_pos x3, if_pos x4, if_pos x5, if_true, e1, e2, Option.bind_some, fL_law_827_s, nx M hR]
      rw [if_neg y4]
      by_cases y5 : y = 5
      · rw [if_pos y5]
        obtain ⟨r, e1, e2⟩ := at_ok a3 a4 (xs (nI i + 1).toNatClampNeg)
        simp only [if_pos x1, if_pos x2, if_pos x3, if_pos x4, if_pos x5, if_true, e1, e2, Option.bind_some, fL_law_827_s, nx M hR]
      rw [if_neg y5]
      by_cases y6 : y = 6
      · rw [if_pos y6]
        obtain ⟨r, e1, e2⟩ := rank_ok a3 a4 (xs (nI i + 1).toNatClampNeg)
        simp only [if_pos x1, if_pos x2, if_pos x3, if_pos x4, if_pos x5, if_true, e1, e2, Option.bind_some, fL_law_827_s, nx M hR]
      rw [if_neg y6]
      by_cases y7 : y = 7
      · rw [if_pos y7]
        obtain ⟨r, e1, e2⟩ := beside_ok a3 a4 (xs (nI i + 1).toNatClampNeg)
        simp only [if_pos x1, if_pos x2, if_pos x3, if_pos x4, if_pos x5, if_true, e1, e2, Option.bind_some, fL_law_827_s, nx M hR]
      rw [if_neg y7]
      by_cases y8 : y = 8
      · rw [if_pos y8]
        obtain ⟨r, e1, e2⟩ := common_ok a3 a4 (xs (nI i + 1).toNatClampNeg) (xs (nI i + 2).toNatClampNeg)
        simp only [if_pos x1, if_pos x2, if_pos x3, if_pos x4, if_pos x5, if_true, e1, e2, Option.bind_some, fL_law_827_s, nx M hR]
      rw [if_neg y8]
      by_cases y9 : y = 9
      · rw [if_pos y9]
        obtain ⟨r, e1, e2⟩ := copy_ok a3 a4 (xs (nI i + 1).toNatClampNeg) (xs (nI i + 2).toNatClampNeg)
        simp only [if_pos x1, if_pos x2, if_pos x3, if_pos x4, if_pos x5, if_true, e1, e2, Option.bind_some, fL_law_827_s, nx M hR]
      rw [if_neg y9]
      by_cases y10 : y = 10
      · rw [if_pos y10]
        obtain ⟨r, M1, M2, m2, pt2, e1, e2, b1, b2⟩ := pattern_ok a6 (xs (nI i + 1).toNatClampNeg) (xs (nI i + 2).toNatClampNeg) (xs (nI i + 3).toNatClampNeg) (xs (nI i + 4).toNatClampNeg)
        simp only [if_pos x1, if_pos x2, if_pos x3, if_pos x4, if_pos x5, if_true, e1, e2, Option.bind_some, fL_law_827_s, nx M2 (hR.patt b1 b2)]
      rw [if_neg y10]
      by_cases y11 : y = 11
      · rw [if_pos y11]
        obtain ⟨r, M1, M2, m2, pt2, e1, e2, b1, b2⟩ := wipe_ok a6
        simp only [if_pos x1, if_pos x2, if_pos x3, if_pos x4, if_pos x5, if_true, e1, e2, Option.bind_some, fL_law_827_s, nx M2 (hR.patt b1 b2)]
      rw [if_neg y11]
      by_cases y12 : y = 12
      · rw [if_pos y12]
        obtain ⟨r, e1, e2⟩ := find_ok a3 a4 a6 (xs (nI i + 1).toNatClampNeg)
        simp only [if_pos x1, if_pos x2, if_pos x3, if_pos x4, if_pos x5, if_true, e1, e2, Option.bind_some, fL_law_827_s, nx M hR]
      rw [if_neg y12]
      by_cases y13 : y = 13
      · rw [if_pos y13]
        obtain ⟨r, e1, e2⟩ := where_ok a3 a4 a6 (xs (nI i + 1).toNatClampNeg)
        simp only [if_pos x1, if_pos x2, if_pos x3, if_pos x4, if_pos x5, if_true, e1, e2, Option.bind_some, fL_law_827_s, nx M hR]
      rw [if_neg y13]
      by_cases y14 : y = 14
      · rw [if_pos y14]
        obtain ⟨r, e1, e2⟩ := different_ok a3 a4
        simp only [if_pos x1, if_pos x2, if_pos x3, if_pos x4, if_pos x5, if_true, e1, e2, Option.bind_some, fL_law_827_s, cmp_self, nx M hR]
      rw [if_neg y14]
      by_cases y15 : y = 15
      · rw [if_pos y15]
        obtain ⟨r, e1, e2⟩ := repeats_ok a3 a4 (xs (nI i + 1).toNatClampNeg) (xs (nI i + 2).toNatClampNeg)
        simp only [if_pos x1, if_pos x2, if_pos x3, if_pos x4, if_pos x5, if_true, e1, e2, Option.bind_some, fL_law_827_s, nx M hR]
      rw [if_neg y15]
      by_cases y16 : y = 16
      · rw [if_pos y16]
        obtain ⟨r, e1, e2⟩ := longest_ok a3 a4 a7 (xs (nI i + 1).toNatClampNeg) (xs (nI i + 2).toNatClampNeg)
        simp only [if_pos x1, if_pos x2, if_pos x3, if_pos x4, if_pos x5, if_true, e1, e2, Option.bind_some, fL_law_827_s, nx M hR]
      rw [if_neg y16]
      by_cases y17 : y = 17
      · rw [if_pos y17]
        obtain ⟨r, M2, e1, e2, b1⟩ := shared_ok a3 a4 (xs (nI i + 1).toNatClampNeg) (xs (nI i + 2).toNatClampNeg)
        simp only [if_pos x1, if_pos x2, if_pos x3, if_pos x4, if_pos x5, if_true, e1, e2, Option.bind_some, fL_law_827_s, nx M2 (hR.other b1 (by decide))]
      rw [if_neg y17]
      by_cases y18 : y = 18
      · rw [if_pos y18]
        obtain ⟨r, e1, e2⟩ := before_ok a3 a4 (xs (nI i + 1).toNatClampNeg)
        simp only [if_pos x1, if_pos x2, if_pos x3, if_pos x4, if_pos x5, if_true, e1, e2, Option.bind_some, fL_law_827_s, nx M hR]
      rw [if_neg y18]
      by_cases y19 : y = 19
      · rw [if_pos y19]
        obtain ⟨r, e1, e2⟩ := back_ok a3 a4 (xs (nI i + 1).toNatClampNeg)
        simp only [if_pos x1, if_pos x2, if_pos x3, if_pos x4, if_pos x5, if_true, e1, e2, Option.bind_some, fL_law_827_s, nx M hR]
      rw [if_neg y19]
      by_cases y20 : y = 20
      · rw [if_pos y20]
        obtain ⟨r, e1, e2⟩ := steps_ok a3 a4 (xs (nI i + 1).toNatClampNeg) (xs (nI i + 2).toNatClampNeg)
        simp only [if_pos x1, if_pos x2, if_pos x3, if_pos x4, if_pos x5, if_true, e1, e2, Option.bind_some, fL_law_827_s, nx M hR]
      rw [if_neg y20]
      by_cases y21 : y = 21
      · rw [if_pos y21]
        obtain ⟨r, M1, M2, e1, e2, b1, b2⟩ := swap_ok a3 a4 a5 (xs (nI i + 1).toNatClampNeg) (xs (nI i + 2).toNatClampNeg)
        have K : Kp [36, 46] [] M M2 := Kp.fr b2
        have hR2 : Rel M2 := ⟨ct, sg, n, T, tx, st, en, SA, rk, cp, cl, m, pt, a1.k K (by decide), a2.k K (by decide) (by decide), a3.k K (by decide), a4.k K (by decide) (by decide), b1, a6.k K (by decide) (by decide) (by decide), a7⟩
        simp only [if_pos x1, if_pos x2, if_pos x3, if_pos x4, if_pos x5, if_true, e1, e2, Option.bind_some, fL_law_827_s, nx M2 hR2]
      rw [if_neg y21]
      by_cases y22 : y = 22
      · rw [if_pos y22]
        obtain ⟨r, M1, M2, e1, e2, b1, b2⟩ := tell_ok a3 a4 a5 (xs (nI i + 1).toNatClampNeg) (xs (nI i + 2).toNatClampNeg)
        have K : Kp [36, 46] [] M M2 := Kp.fr b2
        have hR2 : Rel M2 := ⟨ct, sg, n, T, tx, st, en, SA, rk, cp, cl, m, pt, a1.k K (by decide), a2.k K (by decide) (by decide), a3.k K (by decide), a4.k K (by decide) (by decide), b1, a6.k K (by decide) (by decide) (by decide), a7⟩
        simp only [if_pos x1, if_pos x2, if_pos x3, if_pos x4, if_pos x5, if_true, e1, e2, Option.bind_some, fL_law_827_s, nx M2 hR2]
      rw [if_neg y22]
      by_cases y23 : y = 23
      · rw [if_pos y23]
        obtain ⟨r, M2, e1, e2, b1⟩ := judge_ok a3 a4 a5
        simp only [if_pos x1, if_pos x2, if_pos x3, if_pos x4, if_pos x5, if_true, e1, e2, Option.bind_some, fL_law_827_s, nx M2 (hR.other b1 (by decide))]
      rw [if_neg y23]
      rw [fL_law_827_s]
      exact nx M hR
