/-! SHARED -/
def bsw (n : Nat) (T tx : Nat → Nat) (p t : Nat) : Nat → Nat
  | 0 => 0
  | k + 1 => if tx k = t then (if lcx n T p k ≤ bsw n T tx p t k then bsw n T tx p t k else lcx n T p k) else bsw n T tx p t k
section SHR
variable {n : Nat} {T tx st en SA rk : Nat → Nat} {cp : Nat → Option Nat} {cl : Nat → Nat} {M : xM} {m : Nat}
theorem bsw_iff {p t l : Nat} (hl : 1 ≤ l) : ∀ k, l ≤ bsw n T tx p t k ↔ ∃ q, q < k ∧ tx q = t ∧ l ≤ lcx n T p q := by
  intro k
  induction k with
  | zero => exact ⟨fun h => by have : l ≤ 0 := h; omega, fun ⟨q, h, _⟩ => by omega⟩
  | succ k ih =>
    have e : bsw n T tx p t (k + 1) = if tx k = t then (if lcx n T p k ≤ bsw n T tx p t k then bsw n T tx p t k else lcx n T p k) else bsw n T tx p t k := rfl
    rw [e]
    by_cases g : tx k = t
    · rw [if_pos g]
      have key : l ≤ (if lcx n T p k ≤ bsw n T tx p t k then bsw n T tx p t k else lcx n T p k) ↔ l ≤ bsw n T tx p t k ∨ l ≤ lcx n T p k := by split <;> omega
      rw [key, ih]
      constructor
      · rintro (⟨q, a, b⟩ | h)
        · exact ⟨q, by omega, b⟩
        · exact ⟨k, by omega, g, h⟩
      · rintro ⟨q, a, b, c⟩
        rcases Nat.lt_or_ge q k with h | h
        · exact Or.inl ⟨q, h, b, c⟩
        · rw [show q = k by omega] at c; exact Or.inr c
    · rw [if_neg g, ih]
      constructor
      · rintro ⟨q, a, b⟩; exact ⟨q, by omega, b⟩
      · rintro ⟨q, a, b, c⟩
        rcases Nat.lt_or_ge q k with h | h
        · exact ⟨q, h, b, c⟩
        · rw [show q = k by omega] at b; exact absurd b g
theorem bsw_le (hw : WFx n T tx st en) {p t : Nat} (hp : p < n) : ∀ k, bsw n T tx p t k ≤ 408 ∧ bsw n T tx p t k < n := by
  intro k
  induction k with
  | zero => exact ⟨Nat.zero_le _, by show 0 < n; omega⟩
  | succ k ih =>
    have e : bsw n T tx p t (k + 1) = if tx k = t then (if lcx n T p k ≤ bsw n T tx p t k then bsw n T tx p t k else lcx n T p k) else bsw n T tx p t k := rfl
    rw [e]
    have h1 := hw.lcn hp k
    split
    · split
      · exact ih
      · omega
    · exact ih
theorem cny_mono (P Q : Nat → Prop) [DecidablePred P] [DecidablePred Q] (h : ∀ t, P t → Q t) : ∀ k, cny P k ≤ cny Q k := by
  intro k
  induction k with
  | zero => exact Nat.le_refl 0
  | succ k ih =>
    have e1 : cny P (k + 1) = cny P k + (if P k then 1 else 0) := rfl
    have e2 : cny Q (k + 1) = cny Q k + (if Q k then 1 else 0) := rfl
    rw [e1, e2]
    by_cases g : P k
    · rw [if_pos g, if_pos (h k g)]; omega
    · rw [if_neg g]; omega
theorem cny_pos (P : Nat → Prop) [DecidablePred P] {k : Nat} (h : 1 ≤ cny P k) : ∃ t, t < k ∧ P t := by
  by_cases g : ∃ t, t < k ∧ P t
  · exact g
  · have := cny_zero P k (fun p hp hP => g ⟨p, hp, hP⟩)
    omega
theorem popc_cny (s : Nat) : popc s = cny (fun t => s.testBit t = true) 8 := by
  unfold popc
  simp only [cny, Nat.zero_add]
/-! the m-th greatest of eight -/
def isMth (B : Nat → Nat) (m k v : Nat) : Prop := (v = 0 ∨ ∃ t, t < k ∧ v = B t ∧ m ≤ cny (fun u => B t ≤ B u) 8) ∧ ∀ t, t < k → m ≤ cny (fun u => B t ≤ B u) 8 → B t ≤ v
theorem mth_in {B : Nat → Nat} (hB : ∀ t, B t ≤ 408) (h48 : ∀ t, t < 8 → M 48 t = nI (B t)) {t : Nat} (ht : t < 8) (k4 : Int32 → Int32 → Int32 → xM → Option (Int32)) (x1 x2 : Int32) : ∀ (d u fuel : Nat), u + d = 8 → d < fuel → fX9_mth_16 k4 fuel x1 x2 (nI t) (nI (cny (fun u => B t ≤ B u) u)) (nI u) M = fX9_mth_55 k4 x1 x2 (nI t) (nI (cny (fun u => B t ≤ B u) 8)) M := by
  have e8 : (8 : Int32) = nI 8 := rfl
  have bt := hB t
  have q48 := h48 t ht
  intro d
  induction d with
  | zero =>
    intro u fuel hu hf
    obtain ⟨f, rfl⟩ : ∃ f, fuel = f + 1 := ⟨fuel - 1, by omega⟩
    have e : u = 8 := by omega
    subst e
    simp (disch := omega) only [fX9_mth_16_s, e8, nI_le_iff, if_pos]
  | succ d ih =>
    intro u fuel hu hf
    obtain ⟨f, rfl⟩ : ∃ f, fuel = f + 1 := ⟨fuel - 1, by omega⟩
    have bu := hB u
    have r48 := h48 u (by omega)
    have ih' := ih (u + 1) f (by omega) (by omega)
    by_cases g : B t ≤ B u
    · rw [cny_y (fun u => B t ≤ B u) (k := u) g] at ih'
      simp (disch := omega) only [fX9_mth_16_s, e8, nI_le_iff, if_neg, xin_nI, nI_clamp, if_pos, q48, r48, nI_lt_iff, fX9_mth_46_s, nI_add1]
      exact ih'
    · rw [cny_n (fun u => B t ≤ B u) (k := u) g] at ih'
      have z0 : (0 : Int32) = nI 0 := rfl
      simp (disch := omega) only [fX9_mth_16_s, e8, nI_le_iff, if_neg, xin_nI, nI_clamp, if_pos, q48, r48, nI_lt_iff, fX9_mth_46_s, nI_add1]
      rw [z0, nI_plus]
      exact ih'
theorem mth_loop {B : Nat → Nat} (hB : ∀ t, B t ≤ 408) (h48 : ∀ t, t < 8 → M 48 t = nI (B t)) (hm8 : m ≤ 8) : ∀ (d t v fuel : Nat), t + d = 8 → d < fuel → v ≤ 408 → isMth B m t v → ∃ v2, v2 ≤ 408 ∧ fX9_mth_4 fuel (nI m) (nI v) (nI t) M = some (nI v2) ∧ isMth B m 8 v2 := by
  have e8 : (8 : Int32) = nI 8 := rfl
  intro d
  induction d with
  | zero =>
    intro t v fuel ht hf hv h
    obtain ⟨f, rfl⟩ : ∃ f, fuel = f + 1 := ⟨fuel - 1, by omega⟩
    have e : t = 8 := by omega
    subst e
    exact ⟨v, hv, by simp (disch := omega) only [fX9_mth_4_s, e8, nI_le_iff, if_pos], h⟩
  | succ d ih =>
    intro t v fuel ht hf hv h
    obtain ⟨f, rfl⟩ : ∃ f, fuel = f + 1 := ⟨fuel - 1, by omega⟩
    have bt := hB t
    have q48 := h48 t (by omega)
    have hin := mth_in hB h48 (t := t) (by omega) (fX9_mth_4 f) (nI m) (nI v) 8 0 4096 (by omega) (by omega)
    have hin' : fX9_mth_16 (fX9_mth_4 f) 4096 (nI m) (nI v) (nI t) 0 0 M = fX9_mth_55 (fX9_mth_4 f) (nI m) (nI v) (nI t) (nI (cny (fun u => B t ≤ B u) 8)) M := hin
    have hcl := cny_le (fun u => B t ≤ B u) 8
    have hstep : fX9_mth_4 (f + 1) (nI m) (nI v) (nI t) M = fX9_mth_55 (fX9_mth_4 f) (nI m) (nI v) (nI t) (nI (cny (fun u => B t ≤ B u) 8)) M := by
      simp (disch := omega) only [fX9_mth_4_s, e8, nI_le_iff, if_neg]
      rw [e8] at *
      exact hin'
    rw [hstep]
    obtain ⟨h1, h2⟩ := h
    have keep : (m ≤ cny (fun u => B t ≤ B u) 8 → B t ≤ v) → isMth B m (t + 1) v := fun hk => by
      refine ⟨?_, fun t' ht' hc' => ?_⟩
      · rcases h1 with q | ⟨q, q1, q2⟩
        · exact Or.inl q
        · exact Or.inr ⟨q, by omega, q2⟩
      · rcases Nat.lt_or_ge t' t with q | q
        · exact h2 t' q hc'
        · have : t' = t := by omega
          subst this
          exact hk hc'
    by_cases g : m ≤ cny (fun u => B t ≤ B u) 8
    · by_cases g2 : B t ≤ v
      · obtain ⟨v2, a1, a2, a3⟩ := ih (t + 1) v f (by omega) (by omega) hv (keep (fun _ => g2))
        refine ⟨v2, a1, ?_, a3⟩
        simp (disch := omega) only [fX9_mth_55_s, nI_lt_iff, if_neg, xin_nI, nI_clamp, if_pos, q48, nI_le_iff, fX9_mth_80_s, fX9_mth_81_s, nI_add1, a2]
      · obtain ⟨v2, a1, a2, a3⟩ := ih (t + 1) (B t) f (by omega) (by omega) bt ⟨Or.inr ⟨t, by omega, rfl, g⟩, fun t' ht' hc' => by
          rcases Nat.lt_or_ge t' t with q | q
          · have := h2 t' q hc'; omega
          · rw [show t' = t by omega]; exact Nat.le_refl _⟩
        refine ⟨v2, a1, ?_, a3⟩
        simp (disch := omega) only [fX9_mth_55_s, nI_lt_iff, if_neg, xin_nI, nI_clamp, if_pos, q48, nI_le_iff, fX9_mth_81_s, nI_add1, a2]
    · obtain ⟨v2, a1, a2, a3⟩ := ih (t + 1) v f (by omega) (by omega) hv (keep (fun h => absurd h g))
      refine ⟨v2, a1, ?_, a3⟩
      simp (disch := omega) only [fX9_mth_55_s, nI_lt_iff, if_pos, fX9_mth_80_s, fX9_mth_81_s, nI_add1, a2]
theorem least8 {B : Nat → Nat} {l : Nat} : ∀ (N t : Nat), t < 8 → l ≤ B t → B t ≤ N → ∃ t', t' < 8 ∧ l ≤ B t' ∧ ∀ u, u < 8 → l ≤ B u → B t' ≤ B u := by
  intro N
  induction N with
  | zero => intro t ht h1 h2; exact ⟨t, ht, h1, fun u _ _ => by omega⟩
  | succ N ih =>
    intro t ht h1 h2
    by_cases g : ∃ u, u < 8 ∧ l ≤ B u ∧ B u < B t
    · obtain ⟨u, u1, u2, u3⟩ := g
      exact ih u u1 u2 (by omega)
    · refine ⟨t, ht, h1, fun u u1 u2 => ?_⟩
      rcases Nat.lt_or_ge (B u) (B t) with q | q
      · exact absurd ⟨u, u1, u2, q⟩ g
      · exact q
theorem isMth.iff {B : Nat → Nat} {v : Nat} (hm1 : 1 ≤ m) (h : isMth B m 8 v) {l : Nat} (hl : 1 ≤ l) : l ≤ v ↔ m ≤ cny (fun u => l ≤ B u) 8 := by
  obtain ⟨h1, h2⟩ := h
  constructor
  · intro g
    rcases h1 with q | ⟨t, t1, t2, t3⟩
    · omega
    · have := cny_mono (fun u => B t ≤ B u) (fun u => l ≤ B u) (fun u hu => by have : B t ≤ B u := hu; show l ≤ B u; omega) 8
      omega
  · intro g
    obtain ⟨t, t1, t2⟩ := cny_pos (fun u => l ≤ B u) (k := 8) (by omega)
    obtain ⟨t', q1, q2, q3⟩ := least8 (B := B) (l := l) (B t) t t1 t2 (Nat.le_refl _)
    have := cny_congr (fun u => l ≤ B u) (fun u => B t' ≤ B u) 8 (fun u hu => ⟨fun a => q3 u hu a, fun a => by have : B t' ≤ B u := a; show l ≤ B u; omega⟩)
    have := h2 t' q1 (by omega)
    omega
def OkS (n : Nat) (T tx SA : Nat → Nat) (m l i : Nat) : Prop := m ≤ cny (fun t => l ≤ bsw n T tx (SA i) t n) 8
theorem swipe_loop (k30 : Int32 → Int32 → Int32 → Int32 → Int32 → xM → Option (Int32 × xM)) (x1 x2 x3 x4 x5 : Int32) : ∀ (d t fuel : Nat) (M : xM), t + d = 8 → d < fuel → (∀ u, u < t → M 48 u = 0) → ∃ M2, fX9_shared_42 k30 fuel x1 x2 x3 x4 x5 (nI t) M = fX9_shared_63 k30 x1 x2 x3 x4 x5 M2 ∧ (∀ u, u < 8 → M2 48 u = 0) ∧ Fr [48] M M2 := by
  have e8 : (8 : Int32) = nI 8 := rfl
  intro d
  induction d with
  | zero =>
    intro t fuel M ht hf h
    obtain ⟨f, rfl⟩ : ∃ f, fuel = f + 1 := ⟨fuel - 1, by omega⟩
    exact ⟨M, by simp (disch := omega) only [fX9_shared_42_s, e8, nI_le_iff, if_pos], fun u hu => h u (by omega), Fr.rf⟩
  | succ d ih =>
    intro t fuel M ht hf h
    obtain ⟨f, rfl⟩ : ∃ f, fuel = f + 1 := ⟨fuel - 1, by omega⟩
    obtain ⟨M1, e1⟩ : ∃ M1, M1 = xs1 M 48 t 0 := ⟨_, rfl⟩
    have F1 : Fr [48] M M1 := by rw [e1]; exact Fr.s1 (by decide)
    obtain ⟨M2, a1, a2, a3⟩ := ih (t + 1) f M1 (by omega) (by omega) (fun u hu => by
      rw [e1, xs1_cell]
      by_cases g : u = t
      · rw [if_pos g]
      · rw [if_neg g]; exact h u (by omega))
    exact ⟨M2, by simp (disch := omega) only [fX9_shared_42_s, e8, nI_le_iff, if_neg, xin_nI, nI_clamp, if_pos, xlt_def, ← e1, nI_add1, a1], a2, F1.tr a3⟩
theorem RBm.f48 {M2 : xM} {ks : List Nat} (hm : RBm M n T tx st SA rk) (hF : Fr ks M M2) (h : ∀ k, k ∈ [37, 40, 41, 42, 43, 44, 45] → k ∉ ks) : RBm M2 n T tx st SA rk :=
  hm.kp (by rw [hF 37 (h _ (by decide))]) (hF 40 (h _ (by decide))) (hF 41 (h _ (by decide))) (hF 42 (h _ (by decide))) (hF 43 (h _ (by decide))) (hF 44 (h _ (by decide))) (hF 45 (h _ (by decide)))
theorem sbest_loop (hw : WFx n T tx st en) (hP : PM n T SA rk) {i : Nat} (hi : i < n) (k30 : Int32 → Int32 → Int32 → Int32 → Int32 → xM → Option (Int32 × xM)) (x1 x2 x3 x4 : Int32) : ∀ (d q fuel : Nat) (M : xM), q + d = n → d < fuel → RBm M n T tx st SA rk → (∀ u, u < 8 → M 48 u = nI (bsw n T tx (SA i) u q)) → ∃ M2, fX9_shared_66 k30 fuel x1 x2 x3 x4 (nI i) (nI q) M = fX9_shared_142 k30 x1 x2 x3 x4 (nI i) M2 ∧ (∀ u, u < 8 → M2 48 u = nI (bsw n T tx (SA i) u n)) ∧ Fr [48] M M2 := by
  have hn := hw.1
  have hsi := (hP.1 i hi).1
  intro d
  induction d with
  | zero =>
    intro q fuel M hq hf hm h
    obtain ⟨f, rfl⟩ : ∃ f, fuel = f + 1 := ⟨fuel - 1, by omega⟩
    have h37 := hm.1.1
    have e : q = n := by omega
    subst e
    exact ⟨M, by simp (disch := omega) only [fX9_shared_66_s, h37, nI_le_iff, if_pos], h, Fr.rf⟩
  | succ d ih =>
    intro q fuel M hq hf hm h
    obtain ⟨f, rfl⟩ : ∃ f, fuel = f + 1 := ⟨fuel - 1, by omega⟩
    have h37 := hm.1.1
    have hqn : q < n := by omega
    have h44 := hm.2.2.1 i hi
    have h41 := (hm.1.2.1 q hqn).2
    have ht := (hw.2.1 q hqn).2.1
    have hco := common0_ok hn hm.2.1 hsi hqn
    have h48 := h _ ht
    have hlb := (hw.lcn hsi q).2
    have hbb := (bsw_le hw (t := tx q) hsi q).1
    obtain ⟨v, ev⟩ : ∃ v, v = if lcx n T (SA i) q ≤ bsw n T tx (SA i) (tx q) q then bsw n T tx (SA i) (tx q) q else lcx n T (SA i) q := ⟨_, rfl⟩
    obtain ⟨M1, e1⟩ : ∃ M1, M1 = xs1 M 48 (tx q) (nI v) := ⟨_, rfl⟩
    have F1 : Fr [48] M M1 := by rw [e1]; exact Fr.s1 (by decide)
    obtain ⟨M2, a1, a2, a3⟩ := ih (q + 1) f M1 (by omega) (by omega) (hm.f48 F1 (by decide)) (fun u hu => by
      have e : bsw n T tx (SA i) u (q + 1) = if tx q = u then (if lcx n T (SA i) q ≤ bsw n T tx (SA i) u q then bsw n T tx (SA i) u q else lcx n T (SA i) q) else bsw n T tx (SA i) u q := rfl
      rw [e1, xs1_cell, e]
      by_cases g : u = tx q
      · subst g
        rw [if_pos rfl, if_pos rfl, ev]
      · rw [if_neg g, if_neg (fun h => g h.symm)]; exact h u hu)
    refine ⟨M2, ?_, a2, F1.tr a3⟩
    by_cases g : lcx n T (SA i) q ≤ bsw n T tx (SA i) (tx q) q
    · rw [if_pos g] at ev
      subst ev
      simp (disch := omega) only [fX9_shared_66_s, h37, nI_le_iff, if_neg, xin_nI, nI_clamp, if_pos, h44, hco, Option.bind_some, h41, h48, fX9_shared_135_s, xlt_def, ← e1, nI_add1, a1]
    · rw [if_neg g] at ev
      subst ev
      simp (disch := omega) only [fX9_shared_66_s, h37, nI_le_iff, if_neg, xin_nI, nI_clamp, if_pos, h44, hco, Option.bind_some, h41, h48, fX9_shared_135_s, xlt_def, ← e1, nI_add1, a1]
theorem shr_loop (hw : WFx n T tx st en) (hP : PM n T SA rk) (hm1 : 1 ≤ m) (hm8 : m ≤ 8) (x : Int32) : ∀ (d i l at0 fuel : Nat) (M : xM), i + d = n → d < fuel → RBm M n T tx st SA rk → isBst n (OkS n T tx SA m) i l at0 → ∃ l2 at2 M2, fX9_shared_30 fuel (nI m) x (nI l) (nI at0) (nI i) M = fX9_shared_168 x (nI l2) (nI at2) M2 ∧ isBst n (OkS n T tx SA m) n l2 at2 ∧ Fr [48] M M2 := by
  have hn := hw.1
  intro d
  induction d with
  | zero =>
    intro i l at0 fuel M hi hf hm hb
    obtain ⟨f, rfl⟩ : ∃ f, fuel = f + 1 := ⟨fuel - 1, by omega⟩
    have h37 := hm.1.1
    have e : i = n := by omega
    subst e
    exact ⟨l, at0, M, by simp (disch := omega) only [fX9_shared_30_s, h37, nI_le_iff, if_pos], hb, Fr.rf⟩
  | succ d ih =>
    intro i l at0 fuel M hi hf hm hb
    obtain ⟨f, rfl⟩ : ∃ f, fuel = f + 1 := ⟨fuel - 1, by omega⟩
    have h37 := hm.1.1
    have hin : i < n := by omega
    have hsi := (hP.1 i hin).1
    have hl := hb.1
    obtain ⟨M1, a1, a2, a3⟩ := swipe_loop (fX9_shared_30 f) (nI m) x (nI l) (nI at0) (nI i) 8 0 4096 M (by omega) (by omega) (fun u hu => by omega)
    have a1' : fX9_shared_42 (fX9_shared_30 f) 4096 (nI m) x (nI l) (nI at0) (nI i) 0 M = fX9_shared_63 (fX9_shared_30 f) (nI m) x (nI l) (nI at0) (nI i) M1 := a1
    have hmM1 := hm.f48 a3 (by decide)
    obtain ⟨M2, b1, b2, b3⟩ := sbest_loop hw hP hin (fX9_shared_30 f) (nI m) x (nI l) (nI at0) n 0 4096 M1 (by omega) (by omega) hmM1 (fun u hu => a2 u hu)
    have b1' : fX9_shared_66 (fX9_shared_30 f) 4096 (nI m) x (nI l) (nI at0) (nI i) 0 M1 = fX9_shared_142 (fX9_shared_30 f) (nI m) x (nI l) (nI at0) (nI i) M2 := b1
    have F2 := a3.tr b3
    obtain ⟨v, c1, c2, c3⟩ := mth_loop (B := fun t => bsw n T tx (SA i) t n) (fun t => (bsw_le hw hsi n).1) b2 hm8 8 0 0 4096 (by omega) (by omega) (by omega) ⟨Or.inl rfl, fun t ht => by omega⟩
    have c2' : fX9_mth (nI m) M2 = some (nI v) := by rw [fX9_mth_s]; exact c2
    have hvn : v ≤ n := by
      rcases c3.1 with q | ⟨t, q1, q2, q3⟩
      · omega
      · have := (bsw_le hw (t := t) hsi n).2
        have q2' : v = bsw n T tx (SA i) t n := q2
        omega
    have hst := hb.step (v := v) hvn (fun l' h1 => c3.iff hm1 h1)
    obtain ⟨l2, at2, M3, f1, f2, f3⟩ := ih (i + 1) _ _ f M2 (by omega) (by omega) (hm.f48 F2 (by decide)) hst
    refine ⟨l2, at2, M3, ?_, f2, F2.tr f3⟩
    rw [← f1]
    have hstep : fX9_shared_30 (f + 1) (nI m) x (nI l) (nI at0) (nI i) M = fX9_shared_142 (fX9_shared_30 f) (nI m) x (nI l) (nI at0) (nI i) M2 := by
      simp (disch := omega) only [fX9_shared_30_s, h37, nI_le_iff, if_neg]
      rw [a1', fX9_shared_63_s, b1']
    rw [hstep, fX9_shared_142_s, c2', Option.bind_some]
    by_cases q : v ≤ l
    · rw [if_pos q, if_pos q]
      simp (disch := omega) only [nI_le_iff, if_pos, fX9_shared_162_s, nI_add1]
    · rw [if_neg q, if_neg q]
      simp (disch := omega) only [nI_le_iff, if_neg, fX9_shared_162_s, nI_add1]
/-- the texts of a run, and the texts whose best is as long -/
theorem run_texts (hw : WFx n T tx st en) (hP : PM n T SA rk) {l a b i s : Nat} (hl1 : 1 ≤ l) (hR : Run n T SA l a b) (ha : a ≤ i) (hb : i < b) (hl : l ≤ lcx n T (SA i) (SA i)) (hs : isMsk tx (fun p => a ≤ rk p ∧ rk p < b) n s) : popc s = cny (fun t => l ≤ bsw n T tx (SA i) t n) 8 := by
  rw [popc_cny]
  refine cny_congr _ _ 8 (fun t ht => ?_)
  rw [hs.2 t ht, bsw_iff hl1]
  constructor
  · rintro ⟨p, p1, p2, p3⟩
    exact ⟨p, p1, p3, by rw [lc_symm]; exact (run_set hw hP hR ha hb hl p1).mpr p2⟩
  · rintro ⟨p, p1, p2, p3⟩
    rw [lc_symm] at p3
    exact ⟨p, p1, (run_set hw hP hR ha hb hl p1).mp p3, p2⟩
theorem enough1 (hc : RBc M n T tx st en SA rk cp cl) (hm8 : m ≤ 8) : Ens M n m 1 (fun l a b => l ≤ lcx n T (SA a) (SA a) ∧ ∃ s, isMsk tx (fun p => a ≤ rk p ∧ rk p < b) n s ∧ m ≤ popc s) := by
  intro l a b h1 h2 ha hb
  have hn := hc.1.1
  have hs := (hc.2.1.1 a (by omega)).1
  have h10 := hc.2.2.1.2.1 a (by omega)
  have hlb := (hc.1.lcn hs (SA a)).2
  obtain ⟨s, t1, t2⟩ := texts_ok hc (a := a) (b := b) (by omega) hb (P := fun p => a ≤ rk p ∧ rk p < b) (fun p hp => Iff.rfl)
  have hp8 := popc_le s
  by_cases g : l ≤ lcx n T (SA a) (SA a)
  · by_cases g2 : m ≤ popc s
    · refine Or.inl ⟨⟨g, s, t2, g2⟩, ?_⟩
      simp (disch := omega) only [fX5_isEnough_s, xin_nI, nI_clamp, if_pos, h10, signsFrom_ok hc hs, Option.bind_some, nI_le_iff, z10, if_false, t1, fX5_isEnough_42_s, nI_lt_iff, if_neg]
    · refine Or.inr ⟨fun ⟨_, s', q1, q2⟩ => g2 (by rw [t2.one q1]; exact q2), ?_⟩
      simp (disch := omega) only [fX5_isEnough_s, xin_nI, nI_clamp, if_pos, h10, signsFrom_ok hc hs, Option.bind_some, nI_le_iff, z10, if_false, t1, fX5_isEnough_42_s, nI_lt_iff]
  · refine Or.inr ⟨fun h => g h.1, ?_⟩
    simp (disch := omega) only [fX5_isEnough_s, xin_nI, nI_clamp, if_pos, h10, signsFrom_ok hc hs, Option.bind_some, nI_le_iff, if_neg]
theorem shared_ok (hc : RBc M n T tx st en SA rk cp cl) (hm : RBm M n T tx st SA rk) (x y : Int32) : ∃ r M2, fX8_shared x y M = some r ∧ fX9_shared x y M = some (r, M2) ∧ Fr [48] M M2 := by
  have hn := hc.1.1
  have hP := hc.2.1
  by_cases g1 : x < 1
  · exact ⟨-1, M, by rw [fX8_shared_s, if_pos g1], by rw [fX9_shared_s, if_pos g1], Fr.rf⟩
  · by_cases g2 : 8 < x
    · exact ⟨-1, M, by rw [fX8_shared_s, if_neg g1, if_pos g2], by rw [fX9_shared_s, if_neg g1, if_pos g2], Fr.rf⟩
    · by_cases g3 : y < 0
      · exact ⟨-1, M, by rw [fX8_shared_s, if_neg g1, if_neg g2, if_pos g3], by rw [fX9_shared_s, if_neg g1, if_neg g2, if_pos g3], Fr.rf⟩
      · by_cases g4 : y ≤ 3
        · obtain ⟨m, m1, m2, rfl⟩ := ge1_ex g1
          have hm8 : m ≤ 8 := by
            rcases Nat.lt_or_ge 8 m with g | g
            · exact absurd ((nI_lt_iff (a := 8) (b := m) (by omega) (by omega)).mpr g) g2
            · exact g
          obtain ⟨l, i, M2, e1, e2, e3⟩ := shr_loop hc.1 hP m1 hm8 y n 0 0 0 4096 M (by omega) (by omega) hm ⟨by omega, Or.inl rfl, fun j hj => by omega⟩
          have e1' : fX9_shared_30 4096 (nI m) y 0 0 0 M = fX9_shared_168 y (nI l) (nI i) M2 := e1
          obtain ⟨r, f1, f2⟩ := best_ok (w := 1) (m := m) hc (hm.f48 e3 (by decide)) (enough1 hc hm8) e2 (fun l a b h => h.1) (fun l l' j h1 h2 h3 => by
              have := cny_mono (fun t => l ≤ bsw n T tx (SA j) t n) (fun t => l' ≤ bsw n T tx (SA j) t n) (fun t h => by have : l ≤ bsw n T tx (SA j) t n := h; show l' ≤ bsw n T tx (SA j) t n; omega) 8
              unfold OkS at h3 ⊢
              omega) (fun l j h1 h2 h3 => by
              obtain ⟨a, b, r1, r2, r3⟩ := run_ex (n := n) (T := T) (SA := SA) l h2
              unfold OkS at h3
              obtain ⟨t, t1, t2⟩ := cny_pos (fun t => l ≤ bsw n T tx (SA j) t n) (k := 8) (by omega)
              obtain ⟨q, q1, q2, q3⟩ := (bsw_iff h1 n).mp t2
              have hself : l ≤ lcx n T (SA j) (SA j) := Nat.le_trans q3 lc_le_self
              obtain ⟨s, s1, s2⟩ := texts_ok hc (a := a) (b := b) (by have := r1.1; omega) r1.2.1 (P := fun p => a ≤ rk p ∧ rk p < b) (fun p hp => Iff.rfl)
              refine ⟨a, b, r1, r2, r3, run_end hc.1 r1 r2 r3 hself, s, s2, ?_⟩
              rw [run_texts hc.1 hP h1 r1 r2 r3 hself s2]
              exact h3) (fun l a b h1 r1 h => by
              obtain ⟨q1, s, q2, q3⟩ := h
              rw [run_texts hc.1 hP h1 r1 (Nat.le_refl a) r1.1 q1 q2] at q3
              exact q3) y
          exact ⟨r, M2, by rw [fX8_shared_s, if_neg g1, if_neg g2, if_neg g3, if_pos g4, f1, Option.bind_some], by rw [fX9_shared_s, if_neg g1, if_neg g2, if_neg g3, if_pos g4, e1', fX9_shared_168_s, f2, Option.bind_some], e3⟩
        · exact ⟨-1, M, by rw [fX8_shared_s, if_neg g1, if_neg g2, if_neg g3, if_neg g4], by rw [fX9_shared_s, if_neg g1, if_neg g2, if_neg g3, if_neg g4], Fr.rf⟩
end SHR
