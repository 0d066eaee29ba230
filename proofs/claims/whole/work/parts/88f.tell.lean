/-! THE LONGEST STRETCH: the class's search; the reference's tellStretch; where both tell of one run -/
section TLL
variable {n : Nat} {T tx st en SA rk : Nat → Nat} {cp : Nat → Option Nat} {cl : Nat → Nat} {M M' : xM} {m : Nat} {w : Int32} {En : Nat → Nat → Nat → Prop}
/-- isEnough decides En -/
def Ens (M : xM) (n m : Nat) (w : Int32) (En : Nat → Nat → Nat → Prop) : Prop := ∀ l a b, 1 ≤ l → l ≤ n → a < b → b ≤ n → (En l a b ∧ fX5_isEnough (nI a) (nI b) (nI l) (nI m) w M = some 1) ∨ (¬ En l a b ∧ fX5_isEnough (nI a) (nI b) (nI l) (nI m) w M = some 0)
def Exs (n : Nat) (T SA : Nat → Nat) (En : Nat → Nat → Nat → Prop) (l : Nat) : Prop := ∃ a b, Run n T SA l a b ∧ En l a b
def Fst (n : Nat) (T SA : Nat → Nat) (En : Nat → Nat → Nat → Prop) (l a b : Nat) : Prop := Run n T SA l a b ∧ En l a b ∧ ∀ a' b', Run n T SA l a' b' → b' ≤ a → ¬ En l a' b'
theorem fre_loop (hc : RBc M n T tx st en SA rk cp cl) (hE : Ens M n m w En) {l : Nat} (hl1 : 1 ≤ l) (hln : l ≤ n) : ∀ (d a t fuel : Nat), t + d = n → a < t → d + 1 < fuel → (a = 0 ∨ bes n T SA a < l) → (∀ j, a < j → j < t → l ≤ bes n T SA j) → (∀ a' b', Run n T SA l a' b' → b' ≤ a → ¬ En l a' b') →
    (fX5_firstRunEnd_6 fuel (nI l) (nI m) w (nI a) (nI t) M = some (-1) ∧ ¬ Exs n T SA En l) ∨ ∃ a2 b2, fX5_firstRunEnd_6 fuel (nI l) (nI m) w (nI a) (nI t) M = some (nI b2) ∧ Fst n T SA En l a2 b2 := by
  have hn := hc.1.1
  have h4 := hc.2.2.1.1.1
  intro d
  induction d with
  | zero =>
    intro a t fuel ht ha hf h0 hj hno
    obtain ⟨f, rfl⟩ : ∃ f, fuel = f + 1 + 1 := ⟨fuel - 2, by omega⟩
    have e : t = n := by omega
    have hR := runEnd_ok hc (l := l) (by omega) (show t ≤ n by omega)
    rw [if_pos (Or.inl e)] at hR
    have hrun : Run n T SA l a t := ⟨ha, by omega, h0, Or.inl e, hj⟩
    rcases hE l a t hl1 hln ha (by omega) with ⟨q1, q2⟩ | ⟨q1, q2⟩
    · refine Or.inr ⟨a, t, ?_, hrun, q1, hno⟩
      simp (disch := omega) only [fX5_firstRunEnd_6_s, h4, nI_lt_iff, if_neg, hR, Option.bind_some, z10, if_false, q2]
    · refine Or.inl ⟨?_, ?_⟩
      · simp (disch := omega) only [fX5_firstRunEnd_6_s, h4, nI_lt_iff, if_neg, hR, Option.bind_some, z10, if_false, q2, if_true, fX5_firstRunEnd_49_s, nI_add1, if_pos]
      · rintro ⟨a', b', r1, r2⟩
        rcases Nat.lt_or_ge a b' with g | g
        · obtain ⟨i1, i2⟩ := run_one hrun r1 g (by have := r1.1; have := r1.2.1; omega)
          rw [← i1, ← i2] at r2
          exact q1 r2
        · exact hno a' b' r1 g r2
  | succ d ih =>
    intro a t fuel ht ha hf h0 hj hno
    obtain ⟨f, rfl⟩ : ∃ f, fuel = f + 1 := ⟨fuel - 1, by omega⟩
    have hR := runEnd_ok hc (l := l) (by omega) (show t ≤ n by omega)
    by_cases g : bes n T SA t < l
    · rw [if_pos (Or.inr g)] at hR
      have hrun : Run n T SA l a t := ⟨ha, by omega, h0, Or.inr g, hj⟩
      rcases hE l a t hl1 hln ha (by omega) with ⟨q1, q2⟩ | ⟨q1, q2⟩
      · refine Or.inr ⟨a, t, ?_, hrun, q1, hno⟩
        simp (disch := omega) only [fX5_firstRunEnd_6_s, h4, nI_lt_iff, if_neg, hR, Option.bind_some, z10, if_false, q2]
      · have hstep : fX5_firstRunEnd_6 (f + 1) (nI l) (nI m) w (nI a) (nI t) M = fX5_firstRunEnd_6 f (nI l) (nI m) w (nI t) (nI (t + 1)) M := by
          simp (disch := omega) only [fX5_firstRunEnd_6_s, h4, nI_lt_iff, if_neg, hR, Option.bind_some, z10, if_false, q2, if_true, fX5_firstRunEnd_49_s, nI_add1]
        rw [hstep]
        exact ih t (t + 1) f (by omega) (by omega) (by omega) (Or.inr g) (fun j h1 h2 => by omega) (fun a' b' r1 r2 r3 => by
          rcases Nat.lt_or_ge a b' with q | q
          · obtain ⟨i1, i2⟩ := run_one hrun r1 q (by have := r1.1; omega)
            rw [← i1, ← i2] at r3
            exact q1 r3
          · exact hno a' b' r1 q r3)
    · rw [if_neg (by omega)] at hR
      have hstep : fX5_firstRunEnd_6 (f + 1) (nI l) (nI m) w (nI a) (nI t) M = fX5_firstRunEnd_6 f (nI l) (nI m) w (nI a) (nI (t + 1)) M := by
        simp (disch := omega) only [fX5_firstRunEnd_6_s, h4, nI_lt_iff, if_neg, hR, Option.bind_some, if_true, fX5_firstRunEnd_49_s, nI_add1]
      rw [hstep]
      exact ih a (t + 1) f (by omega) (by omega) (by omega) h0 (fun j h1 h2 => by
        rcases Nat.lt_or_ge j t with q | q
        · exact hj j h1 q
        · rw [show j = t by omega]; omega) hno
theorem fre_ok (hc : RBc M n T tx st en SA rk cp cl) (hE : Ens M n m w En) {l : Nat} (hl1 : 1 ≤ l) (hln : l ≤ n) : (fX5_firstRunEnd (nI l) (nI m) w M = some (-1) ∧ ¬ Exs n T SA En l) ∨ ∃ a b, fX5_firstRunEnd (nI l) (nI m) w M = some (nI b) ∧ Fst n T SA En l a b := by
  have hn := hc.1.1
  rw [fX5_firstRunEnd_s]
  exact fre_loop hc hE hl1 hln (n - 1) 0 1 4096 (by omega) (by omega) (by omega) (Or.inl rfl) (fun j h1 h2 => by omega) (fun a' b' r1 r2 => by have := r1.1; omega)
theorem ll_loop (hc : RBc M n T tx st en SA rk cp cl) (hE : Ens M n m w En) (hmon : ∀ l l', 1 ≤ l' → l' ≤ l → Exs n T SA En l → Exs n T SA En l') : ∀ (d lo hi fuel : Nat), hi ≤ lo + d → lo ≤ hi → hi ≤ n → d < fuel → (lo = 0 ∨ Exs n T SA En lo) → (∀ l, hi < l → ¬ Exs n T SA En l) →
    ∃ r, r ≤ n ∧ fX5_longestLength_11 fuel (nI m) w (nI lo) (nI hi) M = some (nI r) ∧ (r = 0 ∨ Exs n T SA En r) ∧ ∀ l, r < l → ¬ Exs n T SA En l := by
  have hn := hc.1.1
  intro d
  induction d with
  | zero =>
    intro lo hi fuel h1 h2 h3 hf h4 h5
    obtain ⟨f, rfl⟩ : ∃ f, fuel = f + 1 := ⟨fuel - 1, by omega⟩
    exact ⟨lo, by omega, by simp (disch := omega) only [fX5_longestLength_11_s, nI_le_iff, if_pos], h4, fun l h => h5 l (by omega)⟩
  | succ d ih =>
    intro lo hi fuel h1 h2 h3 hf h4 h5
    obtain ⟨f, rfl⟩ : ∃ f, fuel = f + 1 := ⟨fuel - 1, by omega⟩
    by_cases g : hi ≤ lo
    · exact ⟨lo, by omega, by simp (disch := omega) only [fX5_longestLength_11_s, nI_le_iff, if_pos], h4, fun l h => h5 l (by omega)⟩
    · have e2 : (2 : Int32) = nI 2 := rfl
      obtain ⟨md, emd⟩ : ∃ md, md = (lo + hi + 1) / 2 := ⟨_, rfl⟩
      have hmd : lo < md ∧ md ≤ hi := by omega
      have hdv : (nI lo + nI hi + 1) / 2 = nI md := by rw [nI_plus, nI_add1, e2, nI_div (by omega) (by omega) (by omega), emd]
      rcases fre_ok hc hE (l := md) (by omega) (by omega) with ⟨q1, q2⟩ | ⟨a, b, q1, q2⟩
      · obtain ⟨r, a1, a2, a3, a4⟩ := ih lo (md - 1) f (by omega) (by omega) (by omega) (by omega) h4 (fun l h6 h7 => q2 (hmon l md (by omega) (by omega) h7))
        refine ⟨r, a1, ?_, a3, a4⟩
        simp (disch := omega) only [fX5_longestLength_11_s, nI_le_iff, if_neg, hdv, q1, Option.bind_some, if_true, xlt_def, nI_m1, fX5_longestLength_51_s, a2]
      · have z : ¬ nI b = -1 := nI_nem1 (by have := q2.1.2.1; omega)
        obtain ⟨r, a1, a2, a3, a4⟩ := ih md hi f (by omega) (by omega) h3 (by omega) (Or.inr ⟨a, b, q2.1, q2.2.1⟩) h5
        refine ⟨r, a1, ?_, a3, a4⟩
        simp (disch := omega) only [fX5_longestLength_11_s, nI_le_iff, if_neg, hdv, q1, Option.bind_some, z, if_false, fX5_longestLength_51_s, a2]
theorem start_loop (hc : RBc M n T tx st en SA rk cp cl) {l a b : Nat} (hln : l ≤ n) (hR : Run n T SA l a b) : ∀ (d i fuel : Nat), i = a + d → i < b → d < fuel → fX5_runStart_4 fuel (nI l) (nI i) M = some (nI a) := by
  have hn := hc.1.1
  obtain ⟨r1, r2, r3, r4, r5⟩ := hR
  intro d
  induction d with
  | zero =>
    intro i fuel hi hb hf
    obtain ⟨f, rfl⟩ : ∃ f, fuel = f + 1 := ⟨fuel - 1, by omega⟩
    have e : i = a := by omega
    subst e
    have h12 := hc.2.2.1.2.2.2 i (by omega)
    have hbb := bes_b hc.1 hc.2.1 (show i < n by omega)
    by_cases g : i = 0
    · have z : nI i ≤ 0 := (nI_le0 (by omega)).mpr g
      rw [fX5_runStart_4_s, if_pos z]
    · have : bes n T SA i < l := by omega
      simp (disch := omega) only [fX5_runStart_4_s, nI_le0, if_neg, xin_nI, nI_clamp, if_pos, h12, nI_lt_iff]
  | succ d ih =>
    intro i fuel hi hb hf
    obtain ⟨f, rfl⟩ : ∃ f, fuel = f + 1 := ⟨fuel - 1, by omega⟩
    have h12 := hc.2.2.1.2.2.2 i (by omega)
    have hbb := bes_b hc.1 hc.2.1 (show i < n by omega)
    have := r5 i (by omega) hb
    have ih' := ih (i - 1) f (by omega) (by omega) (by omega)
    simp (disch := omega) only [fX5_runStart_4_s, nI_le0, if_neg, xin_nI, nI_clamp, if_pos, h12, nI_lt_iff, nI_addm1, nI_m1, ih']
theorem start_ok (hc : RBc M n T tx st en SA rk cp cl) {l a b : Nat} (hln : l ≤ n) (hR : Run n T SA l a b) : fX5_runStart (nI b) (nI l) M = some (nI a) := by
  have hn := hc.1.1
  have r1 := hR.1
  have r2 := hR.2.1
  rw [fX5_runStart_s, nI_m1 (by omega)]
  exact start_loop hc hln hR (b - 1 - a) (b - 1) 4096 (by omega) (by omega) (by omega)
theorem ts_loop (hw : WFx n T tx st en) (hP : PM n T SA rk) (hm : RBm M n T tx st SA rk) {i l : Nat} (hi : i < n) (hl1 : 1 ≤ l) (hln : l ≤ n) (x : Int32) : ∀ (d k fuel : Nat) (o : Option Nat) (s : Nat), k + d = n → d < fuel → isLst (fun p => l ≤ lcx n T p (SA i)) k o → isMsk tx (fun p => l ≤ lcx n T p (SA i)) k s →
    ∃ o2 s2, fX9_tellStretch_27 fuel (nI i) (nI l) x (enc o) (nI (cny (fun p => l ≤ lcx n T p (SA i)) k)) (nI (popc s)) (nI s) (nI k) M = fX9_tellStretch_114 x (enc o2) (nI (cny (fun p => l ≤ lcx n T p (SA i)) n)) (nI (popc s2)) M ∧ isLst (fun p => l ≤ lcx n T p (SA i)) n o2 ∧ isMsk tx (fun p => l ≤ lcx n T p (SA i)) n s2 := by
  have hn := hw.1
  have h37 := hm.1.1
  have h44 := hm.2.2.1 i hi
  have hsi := (hP.1 i hi).1
  intro d
  induction d with
  | zero =>
    intro k fuel o s hk hf h1 h4
    obtain ⟨f, rfl⟩ : ∃ f, fuel = f + 1 := ⟨fuel - 1, by omega⟩
    have e : k = n := by omega
    subst e
    exact ⟨o, s, by simp (disch := omega) only [fX9_tellStretch_27_s, h37, nI_le_iff, if_pos], h1, h4⟩
  | succ d ih =>
    intro k fuel o s hk hf h1 h4
    obtain ⟨f, rfl⟩ : ∃ f, fuel = f + 1 := ⟨fuel - 1, by omega⟩
    have hkn : k < n := by omega
    have hco := common0_ok hn hm.2.1 hkn hsi
    have hlb := (hw.lcn hkn (SA i)).2
    have h41 := (hm.1.2.1 k hkn).2
    have ht := (hw.2.1 k hkn).2.1
    by_cases g : l ≤ lcx n T k (SA i)
    · obtain ⟨mo, ml⟩ := mask_or s h4.1 _ ht
      have mp := mask_pop s h4.1 _ ht
      have ma := mask_at s h4.1 _ ht
      obtain ⟨o1, eo1, io1⟩ : ∃ o1, (if (0 : Int32) ≤ enc o then enc o else nI k) = enc o1 ∧ isLst (fun p => l ≤ lcx n T p (SA i)) (k + 1) o1 := by
        cases o with
        | none => exact ⟨some k, by rw [if_neg (by decide)]; rfl, h1.new g⟩
        | some q =>
          have hq := h1.lt
          refine ⟨some q, ?_, h1.old⟩
          have z : (0 : Int32) ≤ nI q := (nI_le_iff (a := 0) (b := q) (by omega) (by omega)).mpr (by omega)
          exact if_pos z
      obtain ⟨o2, s2, e1, e2⟩ := ih (k + 1) f o1 (s ||| 2 ^ tx k) (by omega) (by omega) io1 (h4.new g ht)
      refine ⟨o2, s2, ?_, e2⟩
      rw [← e1, cny_y (fun p => l ≤ lcx n T p (SA i)) (k := k) g]
      have go64 : ∀ (v : Int32), fX9_tellStretch_64 (fX9_tellStretch_27 f) (nI i) (nI l) x (nI (cny (fun p => l ≤ lcx n T p (SA i)) k)) (nI (popc s)) (nI s) (nI k) v M = fX9_tellStretch_27 f (nI i) (nI l) x v (nI (cny (fun p => l ≤ lcx n T p (SA i)) k + 1)) (nI (popc (s ||| 2 ^ tx k))) (nI (s ||| 2 ^ tx k)) (nI (k + 1)) M := by
        intro v
        by_cases q : s.testBit (tx k) = true
        · have z2 : ¬ ((nI s) >>> (nI (tx k) &&& 31)) &&& 1 = 0 := fun h => by rw [ma.mp h] at q; cases q
          have z0 : (0 : Int32) = nI 0 := rfl
          rw [mp, if_pos q]
          simp (disch := omega) only [fX9_tellStretch_64_s, xin_nI, nI_clamp, if_pos, h41, z2, if_false, fX9_tellStretch_91_s, mo, xlt_def, fX9_tellStretch_108_s, nI_add1]
          rw [z0, nI_plus]
        · have q' : s.testBit (tx k) = false := by cases h : s.testBit (tx k) with | true => exact absurd h q | false => rfl
          have z2 : ((nI s) >>> (nI (tx k) &&& 31)) &&& 1 = 0 := ma.mpr q'
          rw [mp, if_neg q]
          simp (disch := omega) only [fX9_tellStretch_64_s, xin_nI, nI_clamp, if_pos, h41, z2, if_true, fX9_tellStretch_91_s, mo, xlt_def, fX9_tellStretch_108_s, nI_add1]
      rw [← eo1]
      have hstep : fX9_tellStretch_27 (f + 1) (nI i) (nI l) x (enc o) (nI (cny (fun p => l ≤ lcx n T p (SA i)) k)) (nI (popc s)) (nI s) (nI k) M = if (0 : Int32) ≤ enc o then fX9_tellStretch_64 (fX9_tellStretch_27 f) (nI i) (nI l) x (nI (cny (fun p => l ≤ lcx n T p (SA i)) k)) (nI (popc s)) (nI s) (nI k) (enc o) M else fX9_tellStretch_64 (fX9_tellStretch_27 f) (nI i) (nI l) x (nI (cny (fun p => l ≤ lcx n T p (SA i)) k)) (nI (popc s)) (nI s) (nI k) (nI k) M := by
        simp (disch := omega) only [fX9_tellStretch_27_s, h37, nI_le_iff, if_neg, xin_nI, nI_clamp, if_pos, h44, hco, Option.bind_some, nI_lt_iff]
      rw [hstep]
      by_cases q : (0 : Int32) ≤ enc o
      · rw [if_pos q, if_pos q, go64]
      · rw [if_neg q, if_neg q, go64]
    · obtain ⟨o2, s2, e1, e2⟩ := ih (k + 1) f o s (by omega) (by omega) (h1.skip g) (h4.skip g)
      refine ⟨o2, s2, ?_, e2⟩
      rw [← e1, cny_n (fun p => l ≤ lcx n T p (SA i)) (k := k) g]
      simp (disch := omega) only [fX9_tellStretch_27_s, h37, nI_le_iff, if_neg, xin_nI, nI_clamp, if_pos, h44, hco, Option.bind_some, nI_lt_iff, fX9_tellStretch_108_s, nI_add1]
/-- both sides tell of the run a .. b -/
theorem told_ok (hc : RBc M n T tx st en SA rk cp cl) (hm : RBm M' n T tx st SA rk) {l a b : Nat} (hl1 : 1 ≤ l) (hln : l ≤ n) (hR : Run n T SA l a b) (hle : l ≤ lcx n T (SA a) (SA a)) (hL : fX5_longestLength (nI m) w M = some (nI l)) (hF : fX5_firstRunEnd (nI l) (nI m) w M = some (nI b)) (x : Int32) : ∃ r, fX5_tellLongest (nI m) w x M = some r ∧ fX9_tellStretch (nI a) (nI l) x M' = some r := by
  have hn := hc.1.1
  have hP := hc.2.1
  have r1 := hR.1
  have r2 := hR.2.1
  have hS := start_ok hc hln hR
  by_cases x0 : x = 0
  · exact ⟨nI l, by rw [fX5_tellLongest_s, hL, Option.bind_some, if_pos x0], by rw [fX9_tellStretch_s, if_pos x0]⟩
  · have zl : ¬ nI l = 0 := fun h => by have := (nI_eq0 (by omega)).mp h; omega
    have hset : ∀ p, p < n → (l ≤ lcx n T p (SA a) ↔ a ≤ rk p ∧ rk p < b) := fun p hp => run_set hc.1 hP hR (Nat.le_refl a) r1 hle hp
    obtain ⟨o, s, f1, f2, f3⟩ := ts_loop hc.1 hP hm (i := a) (l := l) (by omega) hl1 hln x n 0 4096 none 0 (by omega) (by omega) (Or.inl ⟨rfl, fun p hp => by omega⟩) isMsk.zero
    have f1' : fX9_tellStretch_27 4096 (nI a) (nI l) x (-1) 0 0 0 0 M' = fX9_tellStretch_114 x (enc o) (nI (cny (fun p => l ≤ lcx n T p (SA a)) n)) (nI (popc s)) M' := f1
    have c0 : cny (fun p => l ≤ lcx n T p (SA a)) n = b - a := cny_rng hP (a := a) (b - a) _ (by omega) (fun p hp => by rw [hset p hp]; omega)
    obtain ⟨s', t1, t2⟩ := texts_ok hc (a := a) (b := b) (by omega) r2 hset
    obtain ⟨o', l1, l2⟩ := least_ok hc (a := a) (b := b) (by omega) r2 hset
    rw [t2.one f3] at t1
    rw [l2.one f2] at l1
    rw [c0] at f1'
    have hmod : ∀ r, fX9_tellStretch_114 x (enc o) (nI (b - a)) (nI (popc s)) M' = some r → fX9_tellStretch (nI a) (nI l) x M' = some r := fun r h => by rw [fX9_tellStretch_s, if_neg x0, if_neg zl, f1']; exact h
    by_cases x1 : x = 1
    · exact ⟨enc o, by rw [fX5_tellLongest_s, hL, Option.bind_some, if_neg x0, if_neg zl, hF, Option.bind_some, hS, Option.bind_some, if_pos x1, l1, Option.bind_some], hmod _ (by rw [fX9_tellStretch_114_s, if_pos x1])⟩
    · by_cases x2 : x = 2
      · exact ⟨nI (b - a), by rw [fX5_tellLongest_s, hL, Option.bind_some, if_neg x0, if_neg zl, hF, Option.bind_some, hS, Option.bind_some, if_neg x1, if_pos x2, nI_sub (by omega)], hmod _ (by rw [fX9_tellStretch_114_s, if_neg x1, if_pos x2])⟩
      · exact ⟨nI (popc s), by rw [fX5_tellLongest_s, hL, Option.bind_some, if_neg x0, if_neg zl, hF, Option.bind_some, hS, Option.bind_some, if_neg x1, if_neg x2, t1, Option.bind_some], hmod _ (by rw [fX9_tellStretch_114_s, if_neg x1, if_neg x2])⟩
/-- the reference's best, for a property Ok of a length and a beginning -/
def isBst (n : Nat) (Ok : Nat → Nat → Prop) (k l i : Nat) : Prop := l ≤ n ∧ (l = 0 ∨ (i < k ∧ Ok l i ∧ ∀ j, j < i → ¬ Ok l j)) ∧ ∀ j, j < k → ∀ l', l < l' → ¬ Ok l' j
theorem best_ok (hc : RBc M n T tx st en SA rk cp cl) (hm : RBm M' n T tx st SA rk) (hE : Ens M n m w En) {Ok : Nat → Nat → Prop} {l i : Nat} (hb : isBst n Ok n l i)
    (hEl : ∀ l a b, En l a b → l ≤ lcx n T (SA a) (SA a))
    (hmon : ∀ l l' j, 1 ≤ l' → l' ≤ l → Ok l j → Ok l' j)
    (hO1 : ∀ l j, 1 ≤ l → j < n → Ok l j → ∃ a b, Run n T SA l a b ∧ a ≤ j ∧ j < b ∧ En l a b)
    (hO2 : ∀ l a b, 1 ≤ l → Run n T SA l a b → En l a b → Ok l a) (x : Int32) : ∃ r, fX5_tellLongest (nI m) w x M = some r ∧ fX9_tellStretch (nI i) (nI l) x M' = some r := by
  have hn := hc.1.1
  have h4 := hc.2.2.1.1.1
  have hP := hc.2.1
  have exb : ∀ l, Exs n T SA En l → l ≤ n := by
    rintro l ⟨a, b, r1, r2⟩
    have hs := (hP.1 a (by have := r1.1; have := r1.2.1; omega)).1
    have h1 := hEl l a b r2
    have h2 := (hc.1.lcn hs (SA a)).1
    omega
  have exm : ∀ l l', 1 ≤ l' → l' ≤ l → Exs n T SA En l → Exs n T SA En l' := by
    rintro l l' h1 h2 ⟨a, b, r1, r2⟩
    obtain ⟨a', b', q1, -, -, q2⟩ := hO1 l' a h1 (by have := r1.1; have := r1.2.1; omega) (hmon l l' a h1 h2 (hO2 l a b (by omega) r1 r2))
    exact ⟨a', b', q1, q2⟩
  obtain ⟨r, a1, a2, a3, a4⟩ := ll_loop hc hE exm n 0 n 4096 (by omega) (by omega) (by omega) (by omega) (Or.inl rfl) (fun l h1 h2 => by have := exb l h2; omega)
  have hL : fX5_longestLength (nI m) w M = some (nI r) := by rw [fX5_longestLength_s, h4]; exact a2
  obtain ⟨b1, b2, b3⟩ := hb
  have erl : r = l := by
    rcases Nat.lt_trichotomy r l with g | g | g
    · rcases b2 with q | ⟨q1, q2, q3⟩
      · omega
      · obtain ⟨a', b', p1, -, -, p2⟩ := hO1 l i (by omega) q1 q2
        exact absurd ⟨a', b', p1, p2⟩ (a4 l g)
    · exact g
    · rcases a3 with q | ⟨a', b', p1, p2⟩
      · omega
      · exact absurd (hO2 r a' b' (by omega) p1 p2) (b3 a' (by have := p1.1; have := p1.2.1; omega) r g)
  subst erl
  by_cases g : r = 0
  · have z : nI r = 0 := by rw [g]; rfl
    by_cases x0 : x = 0
    · exact ⟨nI r, by rw [fX5_tellLongest_s, hL, Option.bind_some, if_pos x0], by rw [fX9_tellStretch_s, if_pos x0]⟩
    · exact ⟨-1, by rw [fX5_tellLongest_s, hL, Option.bind_some, if_neg x0, if_pos z], by rw [fX9_tellStretch_s, if_neg x0, if_pos z]⟩
  · rcases fre_ok hc hE (l := r) (by omega) b1 with ⟨q1, q2⟩ | ⟨a, b, q1, q2, q3, q4⟩
    · rcases a3 with q | q
      · exact absurd q g
      · exact absurd q q2
    · have hia : i = a := by
        rcases b2 with q | ⟨p1, p2, p3⟩
        · exact absurd q g
        · have hoa := hO2 r a b (by omega) q2 q3
          have hle : i ≤ a := by
            rcases Nat.lt_or_ge a i with q | q
            · exact absurd hoa (p3 a q)
            · exact q
          obtain ⟨a', b', s1, s2, s3, s4⟩ := hO1 r i (by omega) p1 p2
          rcases Nat.lt_or_ge a b' with q | q
          · have := (run_one q2 s1 q (by have := q2.1; omega)).1
            omega
          · exact absurd s4 (q4 a' b' s1 q)
      subst hia
      exact told_ok hc hm (by omega) b1 q2 (hEl _ _ _ q3) hL q1 x
end TLL
