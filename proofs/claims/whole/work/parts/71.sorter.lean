/-! THE SORTER'S METHODS over the memory -/
theorem xlt_def {α β : Type} (v : α) (k : α → Option β) : xlt v k = k v := rfl
/-- a level: where it stands, how many letters, how many kinds, the letters -/
def Lv (M : xM) (l b n K : Nat) (T : Nat → Nat) : Prop := l < 11 ∧ M 18 l = nI b ∧ M 19 l = nI n ∧ M 20 l = nI K ∧ b + n ≤ 816 ∧ n ≤ 408 ∧ K ≤ 1008 ∧ ∀ p, p < n → M 15 (b + p) = nI (T p) ∧ T p < K
def LvS (M : xM) (b n : Nat) (S : Nat → Bool) : Prop := ∀ p, p < n → M 16 (b + p) = if S p then 1 else 0
/-- a place is put into the row -/
def pw (M : xM) (c p t d : Nat) : xM := xs1 (xs1 M 14 c (nI p)) 24 t (nI d)
theorem pw_ne {M : xM} {c p t d k : Nat} (h1 : k ≠ 14) (h2 : k ≠ 24) : pw M c p t d k = M k := by unfold pw; rw [xs1_ne h2, xs1_ne h1]
theorem putFirst_ok {M : xM} {l b n K : Nat} {T : Nat → Nat} (h : Lv M l b n K T) {p c : Nat} (hp : p < n) (hc : M 24 (T p) = nI c) (hcn : c < 408) :
    fX4_putFirst (nI l) (nI p) M = some (pw M c p (T p) (c + 1)) := by
  unfold pw
  obtain ⟨hl, hb, hn, hK, h1, h2, h3, hT⟩ := h
  obtain ⟨hT1, hT2⟩ := hT p hp
  have e408 : (408 : Int32) = nI 408 := rfl
  simp (disch := omega) only [fX4_putFirst, xlt_def, nI_clamp, nI_plus, nI_add1, xin_nI, hb, hT1, hc, e408, nI_le_iff, if_pos, if_true, if_false, if_neg]
theorem putLast_ok {M : xM} {l b n K : Nat} {T : Nat → Nat} (h : Lv M l b n K T) {p c : Nat} (hp : p < n) (hc : M 24 (T p) = nI (c + 1)) (hcn : c < 408) :
    fX4_putLast (nI l) (nI p) M = some (pw M c p (T p) c) := by
  unfold pw
  obtain ⟨hl, hb, hn, hK, h1, h2, h3, hT⟩ := h
  obtain ⟨hT1, hT2⟩ := hT p hp
  simp (disch := omega) only [fX4_putLast, xlt_def, nI_clamp, nI_plus, nI_sub1, nI_lt0, xin_nI, hb, hT1, hc, if_pos, if_neg, if_true, if_false]
/-- nothing else is written -/
def Fr (ks : List Nat) (M M2 : xM) : Prop := ∀ k, k ∉ ks → M2 k = M k
theorem Fr.rf {ks : List Nat} {M : xM} : Fr ks M M := fun _ _ => rfl
theorem Fr.tr {ks : List Nat} {M M2 M3 : xM} (h : Fr ks M M2) (h2 : Fr ks M2 M3) : Fr ks M M3 := fun k hk => (h2 k hk).trans (h k hk)
theorem Fr.mono {ks ks2 : List Nat} {M M2 : xM} (h : Fr ks M M2) (hs : ∀ k, k ∈ ks → k ∈ ks2) : Fr ks2 M M2 := fun k hk => h k (fun g => hk (hs k g))
theorem Fr.s1 {ks : List Nat} {M : xM} {k j : Nat} {v : Int32} (hk : k ∈ ks) : Fr ks M (xs1 M k j v) := fun a ha => xs1_ne (fun e => ha (e ▸ hk))
theorem Fr.st {ks : List Nat} {M : xM} {k : Nat} {f : Nat → Int32} (hk : k ∈ ks) : Fr ks M (xst M k f) := fun a ha => xst_ne M f (fun e => ha (e ▸ hk))
theorem Lv.of {M M2 : xM} {l b n K : Nat} {T : Nat → Nat} (h : Lv M l b n K T) (h15 : M2 15 = M 15) (h18 : M2 18 = M 18) (h19 : M2 19 = M 19) (h20 : M2 20 = M 20) : Lv M2 l b n K T := by
  unfold Lv
  rw [h15, h18, h19, h20]
  exact h
theorem LvS.of {M M2 : xM} {b n : Nat} {S : Nat → Bool} (h : LvS M b n S) (h16 : M2 16 = M 16) : LvS M2 b n S := by
  unfold LvS
  rw [h16]
  exact h
def Rep (M : xM) (n K : Nat) (s : sst) : Prop := (∀ j, j < n → M 14 j = enc (s.1 j)) ∧ ∀ c, c < K → M 24 c = nI (s.2 c)
theorem Rep.put {M : xM} {n K : Nat} {s : sst} (h : Rep M n K s) (c p t d : Nat) : Rep (pw M c p t d) n K (fup s.1 c (some p), fup s.2 t d) := by
  unfold pw
  refine ⟨fun j hj => ?_, fun a ha => ?_⟩
  · rw [xs1_ne (by decide), xs1_cell]
    show _ = enc (fup s.1 c (some p) j)
    by_cases e : j = c
    · subst e; rw [if_pos rfl, fup_self]; rfl
    · rw [if_neg e, fup_ne _ _ e]; exact h.1 j hj
  · rw [xs1_cell, xs1_ne (by decide)]
    show _ = nI (fup s.2 t d a)
    by_cases e : a = t
    · subst e; rw [if_pos rfl, fup_self]
    · rw [if_neg e, fup_ne _ _ e]; exact h.2 a ha
theorem Lv.pw {M : xM} {l b n K : Nat} {T : Nat → Nat} (h : Lv M l b n K T) (c p t d : Nat) : Lv (pw M c p t d) l b n K T := h.of (pw_ne (by decide) (by decide)) (pw_ne (by decide) (by decide)) (pw_ne (by decide) (by decide)) (pw_ne (by decide) (by decide))
theorem LvS.pw {M : xM} {b n : Nat} {S : Nat → Bool} (h : LvS M b n S) (c p t d : Nat) : LvS (pw M c p t d) b n S := h.of (pw_ne (by decide) (by decide))
theorem Fr.pw {M : xM} (c p t d : Nat) : Fr [14, 24] M (pw M c p t d) := fun k hk => pw_ne (fun e => hk (by simp [e])) (fun e => hk (by simp [e]))
theorem seeds_loop {l b n K m : Nat} {T : Nat → Nat} {sds : Nat → Nat} (hm : m ≤ 408) (hsn : ∀ i, i < m → sds i < n) (hsafe : ∀ k, k < m → 0 < (sedx T n m sds k).2 (T (sds (m - 1 - k))) ∧ (sedx T n m sds k).2 (T (sds (m - 1 - k))) ≤ n) :
    ∀ (k fuel : Nat) (M : xM), k < fuel → k ≤ m → Lv M l b n K T → Rep M n K (sedx T n m sds (m - k)) → (∀ i, i < m → M 21 i = nI (sds i)) →
      ∃ M2, fX4_putSeeds_23 fuel (nI l) (nI k - 1) M = some M2 ∧ Rep M2 n K (sedx T n m sds m) ∧ Fr [14, 24] M M2 := by
  intro k
  induction k with
  | zero =>
    intro fuel M hf _ hL hR _
    obtain ⟨f, rfl⟩ : ∃ f, fuel = f + 1 := ⟨fuel - 1, by omega⟩
    exact ⟨M, by simp (disch := omega) only [fX4_putSeeds_23_s, nI_dn, if_pos, if_true, if_false], hR, Fr.rf⟩
  | succ k ih =>
    intro fuel M hf hk hL hR hs
    obtain ⟨f, rfl⟩ : ∃ f, fuel = f + 1 := ⟨fuel - 1, by omega⟩
    have hsf := hsafe (m - (k + 1)) (by omega)
    rw [show m - 1 - (m - (k + 1)) = k by omega] at hsf
    obtain ⟨c, hc⟩ : ∃ c, (sedx T n m sds (m - (k + 1))).2 (T (sds k)) = c + 1 := ⟨_, (Nat.succ_pred_eq_of_pos hsf.1).symm⟩
    have hsk := hsn k (by omega)
    have hn := hL.2.2.2.2.2.1
    have hTK := (hL.2.2.2.2.2.2.2 (sds k) hsk).2
    have hcur : M 24 (T (sds k)) = nI (c + 1) := by rw [hR.2 _ hTK, hc]
    have hput := putLast_ok hL hsk hcur (by omega)
    have hR2 := hR.put c (sds k) (T (sds k)) c
    have hst : sedx T n m sds (m - k) = (fup (sedx T n m sds (m - (k + 1))).1 c (some (sds k)), fup (sedx T n m sds (m - (k + 1))).2 (T (sds k)) c) := by
      rw [show m - k = (m - (k + 1)) + 1 by omega]
      show rput T (sds (m - 1 - (m - (k + 1)))) _ = _
      rw [show m - 1 - (m - (k + 1)) = k by omega]
      unfold rput
      rw [hc, Nat.add_sub_cancel]
    rw [← hst] at hR2
    obtain ⟨M2, e1, e2, e3⟩ := ih f (pw M c (sds k) (T (sds k)) c) (by omega) (by omega) (hL.pw _ _ _ _) hR2 (fun i hi => by rw [pw_ne (by decide) (by decide)]; exact hs i hi)
    refine ⟨M2, ?_, e2, (Fr.pw _ _ _ _).tr e3⟩
    simp (disch := omega) only [fX4_putSeeds_23_s, nI_sub1, nI_lt0, xin_nI, nI_clamp, hs, hput, if_pos, if_neg, if_true, if_false, Option.bind_some, nI_addm1, e1]
theorem fall_loop {l b n K : Nat} {T : Nat → Nat} {S : Nat → Bool} {s0 : sst} (hq : ∀ i q, i < n → (fallx T S s0 i).1 i = some q → q < n) (hc : ∀ i p, i < n → (fallx T S s0 i).1 i = some (p + 1) → S p = false → (fallx T S s0 i).2 (T p) < n) :
    ∀ (d i fuel : Nat) (M : xM), i + d = n → d < fuel → Lv M l b n K T → LvS M b n S → Rep M n K (fallx T S s0 i) →
      ∃ M2, fX4_induceFalling_43 fuel (nI l) (nI i) M = some M2 ∧ Rep M2 n K (fallx T S s0 n) ∧ Fr [14, 24] M M2 := by
  intro d
  induction d with
  | zero =>
    intro i fuel M hi hf hL hS hR
    obtain ⟨f, rfl⟩ : ∃ f, fuel = f + 1 := ⟨fuel - 1, by omega⟩
    have h1 := hL.1
    have h2 := hL.2.2.1
    have h3 := hL.2.2.2.2.2.1
    refine ⟨M, ?_, by rw [show n = i by omega]; rw [show n = i by omega] at hR; exact hR, Fr.rf⟩
    simp (disch := omega) only [fX4_induceFalling_43_s, xin_nI, nI_clamp, h2, nI_le_iff, if_pos, if_true, if_false]
  | succ d ih =>
    intro i fuel M hi hf hL hS hR
    obtain ⟨f, rfl⟩ : ∃ f, fuel = f + 1 := ⟨fuel - 1, by omega⟩
    obtain ⟨hl, hb, hn, hK, h1, h2, h3, hT⟩ := id hL
    have hoi := hR.1 i (by omega)
    have hstep : fallx T S s0 (i + 1) = fstep T S i (fallx T S s0 i) := rfl
    -- nothing to place
    have stay : ∀ M', fstep T S i (fallx T S s0 i) = fallx T S s0 i → fX4_induceFalling_43 (f + 1) (nI l) (nI i) M = fX4_induceFalling_43 f (nI l) (nI (i + 1)) M → M' = M → ∃ M2, fX4_induceFalling_43 (f + 1) (nI l) (nI i) M = some M2 ∧ Rep M2 n K (fallx T S s0 n) ∧ Fr [14, 24] M M2 := by
      intro M' e1 e2 _
      obtain ⟨M2, a1, a2, a3⟩ := ih (i + 1) f M (by omega) (by omega) hL hS (by rw [hstep, e1]; exact hR)
      exact ⟨M2, by rw [e2]; exact a1, a2, a3⟩
    cases hx : (fallx T S s0 i).1 i with
    | none =>
      rw [hx] at hoi
      have hoi : M 14 i = -1 := hoi
      refine stay M (by unfold fstep; rw [hx]) ?_ rfl
      have e1 : ((-1 : Int32) - 1 < 0) := by decide
      simp (disch := omega) only [fX4_induceFalling_43_s, xin_nI, nI_clamp, hn, nI_le_iff, if_pos, if_true, if_false, if_neg, hoi, xlt_def, e1, if_true, fX4_induceFalling_88_s, nI_add1]
    | some x =>
      cases x with
      | zero =>
        rw [hx] at hoi
        have hoi : M 14 i = nI 0 := hoi
        refine stay M (by unfold fstep; rw [hx]) ?_ rfl
        simp (disch := omega) only [fX4_induceFalling_43_s, xin_nI, nI_clamp, hn, nI_le_iff, if_pos, if_true, if_false, if_neg, hoi, xlt_def, nI_dn, fX4_induceFalling_88_s, nI_add1]
      | succ p =>
        rw [hx] at hoi
        have hoi : M 14 i = nI (p + 1) := hoi
        have hpn := hq i _ (by omega) hx
        have hSp := hS p (by omega)
        cases hz : S p with
        | true =>
          rw [hz] at hSp
          have hSp : M 16 (b + p) = 1 := hSp
          refine stay M (by unfold fstep; rw [hx]; simp [hz]) ?_ rfl
          have e1 : ¬ (1 : Int32) = 0 := by decide
          simp (disch := omega) only [fX4_induceFalling_43_s, xin_nI, nI_clamp, hn, nI_le_iff, if_pos, if_true, if_false, if_neg, hoi, xlt_def, nI_sub1, nI_lt0, if_false, hb, nI_plus, hSp, e1, fX4_induceFalling_88_s, nI_add1]
        | false =>
          rw [hz] at hSp
          have hSp : M 16 (b + p) = 0 := hSp
          have hcn := hc i p (by omega) hx hz
          have hTK := (hT p (by omega)).2
          have hput := putFirst_ok hL (show p < n by omega) (hR.2 _ hTK) (by omega)
          have hst : fallx T S s0 (i + 1) = (fup (fallx T S s0 i).1 ((fallx T S s0 i).2 (T p)) (some p), fup (fallx T S s0 i).2 (T p) ((fallx T S s0 i).2 (T p) + 1)) := by
            rw [hstep]; unfold fstep; rw [hx]; simp [hz, fput]
          obtain ⟨M2, a1, a2, a3⟩ := ih (i + 1) f (pw M _ p (T p) _) (by omega) (by omega) (hL.pw _ _ _ _) (hS.pw _ _ _ _) (by rw [hst]; exact hR.put _ _ _ _)
          refine ⟨M2, ?_, a2, (Fr.pw _ _ _ _).tr a3⟩
          simp (disch := omega) only [fX4_induceFalling_43_s, xin_nI, nI_clamp, hn, nI_le_iff, if_pos, if_true, if_false, if_neg, hoi, xlt_def, nI_sub1, nI_lt0, if_false, hb, nI_plus, hSp, if_true, hput, Option.bind_some, fX4_induceFalling_88_s, nI_add1, a1]
theorem rise_loop {l b n K : Nat} {T : Nat → Nat} {S : Nat → Bool} {s0 : sst} (hq : ∀ k q, k < n → (risex T S n s0 k).1 (n - 1 - k) = some q → q < n) (hc : ∀ k p, k < n → (risex T S n s0 k).1 (n - 1 - k) = some (p + 1) → S p = true → 0 < (risex T S n s0 k).2 (T p) ∧ (risex T S n s0 k).2 (T p) ≤ n) :
    ∀ (d fuel : Nat) (M : xM), d ≤ n → d < fuel → Lv M l b n K T → LvS M b n S → Rep M n K (risex T S n s0 (n - d)) →
      ∃ M2, fX4_induceRising_28 fuel (nI l) (nI d - 1) M = some M2 ∧ Rep M2 n K (risex T S n s0 n) ∧ Fr [14, 24] M M2 := by
  intro d
  induction d with
  | zero =>
    intro fuel M hi hf hL hS hR
    obtain ⟨f, rfl⟩ : ∃ f, fuel = f + 1 := ⟨fuel - 1, by omega⟩
    exact ⟨M, by simp (disch := omega) only [fX4_induceRising_28_s, nI_dn, if_pos, if_true, if_false], hR, Fr.rf⟩
  | succ d ih =>
    intro fuel M hi hf hL hS hR
    obtain ⟨f, rfl⟩ : ∃ f, fuel = f + 1 := ⟨fuel - 1, by omega⟩
    obtain ⟨hl, hb, hn, hK, h1, h2, h3, hT⟩ := id hL
    have hoi := hR.1 d (by omega)
    obtain ⟨k, hk⟩ : ∃ k, k = n - (d + 1) := ⟨_, rfl⟩
    have hkd : n - 1 - k = d := by omega
    rw [← hk] at hR hoi
    have hstep : risex T S n s0 (n - d) = rstep T S d (risex T S n s0 k) := by
      rw [show n - d = k + 1 by omega]
      show rstep T S (n - 1 - k) _ = _
      rw [hkd]
    have stay : rstep T S d (risex T S n s0 k) = risex T S n s0 k → fX4_induceRising_28 (f + 1) (nI l) (nI (d + 1) - 1) M = fX4_induceRising_28 f (nI l) (nI d - 1) M → ∃ M2, fX4_induceRising_28 (f + 1) (nI l) (nI (d + 1) - 1) M = some M2 ∧ Rep M2 n K (risex T S n s0 n) ∧ Fr [14, 24] M M2 := by
      intro e1 e2
      obtain ⟨M2, a1, a2, a3⟩ := ih f M (by omega) (by omega) hL hS (by rw [hstep, e1]; exact hR)
      exact ⟨M2, by rw [e2]; exact a1, a2, a3⟩
    cases hx : (risex T S n s0 k).1 d with
    | none =>
      rw [hx] at hoi
      have hoi : M 14 d = -1 := hoi
      refine stay (by unfold rstep; rw [hx]) ?_
      have e1 : ((-1 : Int32) - 1 < 0) := by decide
      simp (disch := omega) only [fX4_induceRising_28_s, nI_sub1, nI_lt0, if_false, xin_nI, nI_clamp, if_pos, if_true, if_false, if_neg, hoi, xlt_def, e1, if_true, fX4_induceRising_67_s, nI_addm1]
    | some x =>
      cases x with
      | zero =>
        rw [hx] at hoi
        have hoi : M 14 d = nI 0 := hoi
        refine stay (by unfold rstep; rw [hx]) ?_
        simp (disch := omega) only [fX4_induceRising_28_s, nI_sub1, nI_lt0, if_false, xin_nI, nI_clamp, if_pos, if_true, if_false, if_neg, hoi, xlt_def, nI_dn, fX4_induceRising_67_s, nI_addm1]
      | succ p =>
        rw [hx] at hoi
        have hoi : M 14 d = nI (p + 1) := hoi
        have hpn := hq k _ (by omega) (by rw [hkd]; exact hx)
        have hSp := hS p (by omega)
        cases hz : S p with
        | false =>
          rw [hz] at hSp
          have hSp : M 16 (b + p) = 0 := hSp
          refine stay (by unfold rstep; rw [hx]; simp [hz]) ?_
          simp (disch := omega) only [fX4_induceRising_28_s, nI_sub1, nI_lt0, if_false, xin_nI, nI_clamp, if_pos, if_true, if_false, if_neg, hoi, xlt_def, hb, nI_plus, hSp, if_true, fX4_induceRising_67_s, nI_addm1]
        | true =>
          rw [hz] at hSp
          have hSp : M 16 (b + p) = 1 := hSp
          have hcn := hc k p (by omega) (by rw [hkd]; exact hx) hz
          have hTK := (hT p (by omega)).2
          obtain ⟨c, hce⟩ : ∃ c, (risex T S n s0 k).2 (T p) = c + 1 := ⟨_, (Nat.succ_pred_eq_of_pos hcn.1).symm⟩
          have hput := putLast_ok hL (show p < n by omega) (c := c) (by rw [hR.2 _ hTK, hce]) (by omega)
          have e1 : ¬ (1 : Int32) = 0 := by decide
          have hst : risex T S n s0 (n - d) = (fup (risex T S n s0 k).1 c (some p), fup (risex T S n s0 k).2 (T p) c) := by
            rw [hstep]; unfold rstep; rw [hx]; simp [hz, rput, hce]
          obtain ⟨M2, a1, a2, a3⟩ := ih f (pw M c p (T p) c) (by omega) (by omega) (hL.pw _ _ _ _) (hS.pw _ _ _ _) (by rw [hst]; exact hR.put _ _ _ _)
          refine ⟨M2, ?_, a2, (Fr.pw _ _ _ _).tr a3⟩
          simp (disch := omega) only [fX4_induceRising_28_s, nI_sub1, nI_lt0, if_false, xin_nI, nI_clamp, if_pos, if_true, if_false, if_neg, hoi, xlt_def, hb, nI_plus, hSp, e1, hput, Option.bind_some, fX4_induceRising_67_s, nI_addm1, a1]
