/-! FIND and WHERE -/
def mtf (n : Nat) (T pt : Nat → Nat) (p : Nat) : Nat → Nat → Nat
  | 0, k => k
  | d + 1, k => if p + k < n ∧ T (p + k) = pt k + 8 then mtf n T pt p d (k + 1) else k
def mtx (n : Nat) (T : Nat → Nat) (m : Nat) (pt : Nat → Nat) (p : Nat) : Nat := mtf n T pt p m 0
abbrev Eqp (n : Nat) (T : Nat → Nat) (m : Nat) (pt : Nat → Nat) (p : Nat) : Prop := mtx n T m pt p = m
abbrev Lsp (n : Nat) (T : Nat → Nat) (m : Nat) (pt : Nat → Nat) (p : Nat) : Prop := mtx n T m pt p < m ∧ T (p + mtx n T m pt p) < pt (mtx n T m pt p) + 8
section FND
variable {n : Nat} {T tx st en SA rk : Nat → Nat} {cp : Nat → Option Nat} {cl : Nat → Nat} {M : xM} {m : Nat} {pt : Nat → Nat}
theorem mtf_spec {p : Nat} : ∀ (d k : Nat), k + d = m → k ≤ mtf n T pt p d k ∧ mtf n T pt p d k ≤ m ∧ (∀ i, k ≤ i → i < mtf n T pt p d k → p + i < n ∧ T (p + i) = pt i + 8) ∧ (mtf n T pt p d k < m → ¬ (p + mtf n T pt p d k < n ∧ T (p + mtf n T pt p d k) = pt (mtf n T pt p d k) + 8)) := by
  intro d
  induction d with
  | zero => intro k hk; exact ⟨Nat.le_refl _, by show k ≤ m; omega, fun i h1 h2 => by have : i < k := h2; omega, fun h => by have : k < m := h; omega⟩
  | succ d ih =>
    intro k hk
    have e : mtf n T pt p (d + 1) k = if p + k < n ∧ T (p + k) = pt k + 8 then mtf n T pt p d (k + 1) else k := rfl
    rw [e]
    by_cases g : p + k < n ∧ T (p + k) = pt k + 8
    · rw [if_pos g]
      obtain ⟨a, b, c, d⟩ := ih (k + 1) (by omega)
      refine ⟨by omega, b, fun i h1 h2 => ?_, d⟩
      rcases Nat.lt_or_ge k i with g2 | g2
      · exact c i g2 h2
      · rw [show i = k by omega]; exact g
    · rw [if_neg g]
      exact ⟨Nat.le_refl _, by omega, fun i h1 h2 => by omega, fun _ => g⟩
theorem mt_le {p : Nat} : mtx n T m pt p ≤ m := (mtf_spec m 0 (by omega)).2.1
theorem mt_in {p i : Nat} (h : i < mtx n T m pt p) : p + i < n ∧ T (p + i) = pt i + 8 := (mtf_spec (m := m) m 0 (by omega)).2.2.1 i (by omega) h
theorem mt_out {p : Nat} (h : mtx n T m pt p < m) : ¬ (p + mtx n T m pt p < n ∧ T (p + mtx n T m pt p) = pt (mtx n T m pt p) + 8) := (mtf_spec m 0 (by omega)).2.2.2 h
theorem mt_eq {p k : Nat} (h1 : k ≤ m) (h2 : ∀ i, i < k → p + i < n ∧ T (p + i) = pt i + 8) (h3 : k < m → ¬ (p + k < n ∧ T (p + k) = pt k + 8)) : mtx n T m pt p = k := by
  rcases Nat.lt_trichotomy (mtx n T m pt p) k with g | g | g
  · exact absurd (h2 _ g) (mt_out (by omega))
  · exact g
  · exact absurd (mt_in g) (h3 (by have := mt_le (n := n) (T := T) (m := m) (pt := pt) (p := p); omega))
theorem beg_n (hw : WFx n T tx st en) {p k : Nat} (hp : p < n) (h : ∀ i, i < k → p + i < n ∧ T (p + i) = pt i + 8) : p + k < n := by
  have h1 : k ≤ lcx n T p p := lc_ge fun i hi => by have := h i hi; exact ⟨this.1, this.1, rfl, by omega⟩
  have := (hw.lcn hp p).1
  omega
theorem mt_n (hw : WFx n T tx st en) {p : Nat} (hp : p < n) : p + mtx n T m pt p < n := beg_n hw hp (fun i hi => mt_in hi)
theorem ls_dn (hw : WFx n T tx st en) {p q : Nat} (hp : p < n) (hq : q < n) (h : slt n T p q) (hl : Lsp n T m pt q) : Lsp n T m pt p ∧ mtx n T m pt p ≤ mtx n T m pt q := by
  have hs := (hw.less hp hq).mp h
  obtain ⟨h1, h2⟩ := hl
  have hin := fun i => @lc_in n T p q i
  have hmi := fun i => @mt_in n T m pt q i
  generalize lcx n T p q = l at *
  generalize mtx n T m pt q = b at *
  rcases Nat.lt_or_ge b l with g | g
  · have hb := hin b g
    have e : mtx n T m pt p = b := mt_eq (by omega) (fun i hi => by have a := hin i (by omega); have c := hmi i hi; exact ⟨a.1, by rw [a.2.2.1]; exact c.2⟩) (fun _ k => by rw [hb.2.2.1] at k; omega)
    unfold Lsp
    rw [e, hb.2.2.1]
    exact ⟨⟨h1, h2⟩, Nat.le_refl _⟩
  · have hle : T (p + l) < pt l + 8 := by
      rcases Nat.lt_or_ge l b with g2 | g2
      · have := (hmi l g2).2; omega
      · have e : l = b := by omega
        subst e
        omega
    have e : mtx n T m pt p = l := mt_eq (by omega) (fun i hi => by have a := hin i hi; have c := hmi i (by omega); exact ⟨a.1, by rw [a.2.2.1]; exact c.2⟩) (fun _ k => by omega)
    unfold Lsp
    rw [e]
    exact ⟨⟨by omega, hle⟩, g⟩
theorem gt_up (hw : WFx n T tx st en) {p q : Nat} (hp : p < n) (hq : q < n) (h : slt n T p q) (he : ¬ Eqp n T m pt p) (hl : ¬ Lsp n T m pt p) : ¬ Eqp n T m pt q ∧ ¬ Lsp n T m pt q ∧ mtx n T m pt q ≤ mtx n T m pt p := by
  have hs := (hw.less hp hq).mp h
  have hpn := mt_n (m := m) (pt := pt) hw hp
  have hm1 : mtx n T m pt p < m := by have := @mt_le n T m pt p; unfold Eqp at he; omega
  have h2 : pt (mtx n T m pt p) + 8 < T (p + mtx n T m pt p) := by
    have a := mt_out hm1
    unfold Lsp at hl
    omega
  have hin := fun i => @lc_in n T p q i
  have hmi := fun i => @mt_in n T m pt p i
  have hql := (hw.lcn hq p).1
  rw [lc_symm] at hql
  generalize lcx n T p q = l at *
  generalize mtx n T m pt p = a at *
  rcases Nat.lt_or_ge a l with g | g
  · have hb := hin a g
    have e : mtx n T m pt q = a := mt_eq (by omega) (fun i hi => by have x := hin i (by omega); have c := hmi i hi; exact ⟨x.2.1, by rw [← x.2.2.1]; exact c.2⟩) (fun _ k => by rw [← hb.2.2.1] at k; omega)
    unfold Lsp Eqp
    rw [e, ← hb.2.2.1]
    omega
  · have hle : pt l + 8 < T (q + l) := by
      rcases Nat.lt_or_ge l a with g2 | g2
      · have := (hmi l g2).2; omega
      · have e : l = a := by omega
        subst e
        omega
    have e : mtx n T m pt q = l := mt_eq (by omega) (fun i hi => by have x := hin i hi; have c := hmi i (by omega); exact ⟨x.2.1, by rw [← x.2.2.1]; exact c.2⟩) (fun _ k => by omega)
    unfold Lsp Eqp
    rw [e]
    omega
theorem alikeAt_loop (hc : RBc M n T tx st en SA rk cp cl) (hr : RP M m pt) {p : Nat} (hp : p < n) : ∀ (d k fuel : Nat), k + d = m → d < fuel → fX2_alikeAt_2 fuel (nI p) (nI k) M = some (nI (mtf n T pt p d k)) := by
  have hn := hc.1.1
  have hm := hr.1
  have h32 := hr.2.1
  have h4 := hc.2.2.1.1.1
  intro d
  induction d with
  | zero =>
    intro k fuel hk hf
    obtain ⟨f, rfl⟩ : ∃ f, fuel = f + 1 := ⟨fuel - 1, by omega⟩
    simp (disch := omega) only [fX2_alikeAt_2_s, h32, nI_le_iff, if_pos, mtf]
  | succ d ih =>
    intro k fuel hk hf
    obtain ⟨f, rfl⟩ : ∃ f, fuel = f + 1 := ⟨fuel - 1, by omega⟩
    have e : mtf n T pt p (d + 1) k = if p + k < n ∧ T (p + k) = pt k + 8 then mtf n T pt p d (k + 1) else k := rfl
    rw [e]
    by_cases g1 : p + k < n
    · have h5 := (hc.2.2.1.1.2.1 (p + k) g1).1
      have hT := (hc.1.2.1 (p + k) g1).1
      obtain ⟨hp9, h33, -⟩ := hr.2.2.2 k (by omega)
      by_cases g2 : T (p + k) = pt k + 8
      · rw [if_pos ⟨g1, g2⟩]
        simp (disch := omega) only [fX2_alikeAt_2_s, h32, h4, nI_plus, nI_le_iff, if_neg, xin_nI, nI_clamp, if_pos, h5, h33, g2, if_true, nI_add1, ih]
      · rw [if_neg (fun h => g2 h.2)]
        have z : ¬ nI (T (p + k)) = nI (pt k + 8) := fun h => g2 ((nI_eq_iff (by omega) (by omega)).mp h)
        simp (disch := omega) only [fX2_alikeAt_2_s, h32, h4, nI_plus, nI_le_iff, if_neg, xin_nI, nI_clamp, if_pos, h5, h33, z, if_false]
    · rw [if_neg (fun h => g1 h.1)]
      simp (disch := omega) only [fX2_alikeAt_2_s, h32, h4, nI_plus, nI_le_iff, if_neg, if_pos]
theorem alikeAt_ok (hc : RBc M n T tx st en SA rk cp cl) (hr : RP M m pt) {p : Nat} (hp : p < n) : fX2_alikeAt (nI p) M = some (nI (mtx n T m pt p)) := by
  have := hr.1
  rw [fX2_alikeAt_s]
  exact alikeAt_loop hc hr hp m 0 4096 (by omega) (by omega)
theorem wM_p {c : Nat} : wM (c + 8) = nI c := by unfold wM; rw [if_neg (by omega), Nat.add_sub_cancel]
theorem matched_loop (hw : WFx n T tx st en) (hm : RBm M n T tx st SA rk) (hr : RP M m pt) {p : Nat} (hp : p < n) : ∀ (d k fuel : Nat), k + d = m → d < fuel → (∀ i, i < k → p + i < n ∧ T (p + i) = pt i + 8) → fX9_matched_2 fuel (nI p) (nI k) M = some (nI (mtf n T pt p d k)) := by
  have hn := hw.1
  have hm4 := hr.1
  have h37 := hr.2.2.1
  intro d
  induction d with
  | zero =>
    intro k fuel hk hf hi
    obtain ⟨f, rfl⟩ : ∃ f, fuel = f + 1 := ⟨fuel - 1, by omega⟩
    simp (disch := omega) only [fX9_matched_2_s, h37, nI_le_iff, if_pos, mtf]
  | succ d ih =>
    intro k fuel hk hf hi
    obtain ⟨f, rfl⟩ : ∃ f, fuel = f + 1 := ⟨fuel - 1, by omega⟩
    have e : mtf n T pt p (d + 1) k = if p + k < n ∧ T (p + k) = pt k + 8 then mtf n T pt p d (k + 1) else k := rfl
    rw [e]
    have g1 := beg_n hw hp hi
    have h40 := (hm.1.2.1 (p + k) g1).1
    have hT := (hw.2.1 (p + k) g1).1
    obtain ⟨hp9, -, h47⟩ := hr.2.2.2 k (by omega)
    by_cases g2 : T (p + k) = pt k + 8
    · have ih' := ih (k + 1) f (by omega) (by omega) (fun i hi2 => by
        rcases Nat.lt_or_ge i k with g | g
        · exact hi i g
        · rw [show i = k by omega]; exact ⟨g1, g2⟩)
      rw [if_pos ⟨g1, g2⟩]
      simp (disch := omega) only [fX9_matched_2_s, h37, nI_plus, nI_le_iff, if_neg, xin_nI, nI_clamp, if_pos, h40, h47, g2, wM_p, if_true, nI_add1, ih']
    · rw [if_neg (fun h => g2 h.2)]
      have z : ¬ wM (T (p + k)) = nI (pt k) := fun h => g2 (by rw [← wM_p] at h; exact (wM_eq (by omega) (by omega)).mp h)
      simp (disch := omega) only [fX9_matched_2_s, h37, nI_plus, nI_le_iff, if_neg, xin_nI, nI_clamp, if_pos, h40, h47, z, if_false]
theorem matched_ok (hw : WFx n T tx st en) (hm : RBm M n T tx st SA rk) (hr : RP M m pt) {p : Nat} (hp : p < n) : fX9_matched (nI p) M = some (nI (mtx n T m pt p)) := by
  have := hr.1
  rw [fX9_matched_s]
  exact matched_loop hw hm hr hp m 0 4096 (by omega) (by omega) (fun i hi => by omega)
theorem side_ok (hc : RBc M n T tx st en SA rk cp cl) (hr : RP M m pt) {p : Nat} (hp : p < n) : fX2_sideOf (nI p) M = some (if Eqp n T m pt p then 0 else if Lsp n T m pt p then -1 else 1) := by
  have hn := hc.1.1
  have hm4 := hr.1
  have h32 := hr.2.1
  have h4 := hc.2.2.1.1.1
  have hmn := mt_n (m := m) (pt := pt) hc.1 hp
  have hle := @mt_le n T m pt p
  have h5 := (hc.2.2.1.1.2.1 _ hmn).1
  have hT := (hc.1.2.1 _ hmn).1
  by_cases g : Eqp n T m pt p
  · rw [if_pos g]
    have z : nI (mtx n T m pt p) = nI m := by rw [g]
    rw [fX2_sideOf_s, alikeAt_ok hc hr hp, Option.bind_some, h32, if_pos z]
  · rw [if_neg g]
    have z : ¬ nI (mtx n T m pt p) = nI m := fun h => g ((nI_eq_iff (by omega) (by omega)).mp h)
    have hlt : mtx n T m pt p < m := by unfold Eqp at g; omega
    obtain ⟨hp9, h33, -⟩ := hr.2.2.2 _ hlt
    by_cases g2 : Lsp n T m pt p
    · have := g2.2
      rw [if_pos g2]
      simp (disch := omega) only [fX2_sideOf_s, alikeAt_ok hc hr hp, Option.bind_some, h32, z, if_false, h4, nI_plus, nI_le_iff, if_neg, xin_nI, nI_clamp, if_pos, h5, h33]
    · have : pt (mtx n T m pt p) + 8 ≤ T (p + mtx n T m pt p) := by unfold Lsp at g2; omega
      rw [if_neg g2]
      simp (disch := omega) only [fX2_sideOf_s, alikeAt_ok hc hr hp, Option.bind_some, h32, z, if_false, h4, nI_plus, nI_le_iff, if_neg, xin_nI, nI_clamp, if_pos, h5, h33]
theorem reach_loop (hc : RBc M n T tx st en SA rk cp cl) {s : Int32} {D : Nat → Prop} (hs : ∀ i, i < n → ∃ v, fX2_sideOf (nI (SA i)) M = some v ∧ (s ≤ v ↔ ¬ D i)) (hD : ∀ i j, i < j → j < n → D j → D i) : ∀ (d lo hi fuel : Nat), hi ≤ lo + d → lo ≤ hi → hi ≤ n → d < fuel → (∀ i, i < lo → D i) → (∀ i, hi ≤ i → i < n → ¬ D i) → ∃ r, r ≤ n ∧ fX2_firstReaching_10 fuel s (nI lo) (nI hi) M = some (nI r) ∧ (∀ i, i < r → D i) ∧ ∀ i, r ≤ i → i < n → ¬ D i := by
  have hn := hc.1.1
  intro d
  induction d with
  | zero =>
    intro lo hi fuel h1 h2 h3 hf h4 h5
    obtain ⟨f, rfl⟩ : ∃ f, fuel = f + 1 := ⟨fuel - 1, by omega⟩
    exact ⟨lo, by omega, by simp (disch := omega) only [fX2_firstReaching_10_s, nI_le_iff, if_pos], h4, fun i h6 h7 => h5 i (by omega) h7⟩
  | succ d ih =>
    intro lo hi fuel h1 h2 h3 hf h4 h5
    obtain ⟨f, rfl⟩ : ∃ f, fuel = f + 1 := ⟨fuel - 1, by omega⟩
    by_cases g : hi ≤ lo
    · exact ⟨lo, by omega, by simp (disch := omega) only [fX2_firstReaching_10_s, nI_le_iff, if_pos], h4, fun i h6 h7 => h5 i (by omega) h7⟩
    · have e2 : (2 : Int32) = nI 2 := rfl
      obtain ⟨md, emd⟩ : ∃ md, md = (lo + hi) / 2 := ⟨_, rfl⟩
      have hmd : lo ≤ md ∧ md < hi := by omega
      have hdv : (nI lo + nI hi) / 2 = nI md := by rw [nI_plus, e2, nI_div (by omega) (by omega) (by omega), emd]
      have h10 := hc.2.2.1.2.1 md (by omega)
      obtain ⟨v, hv1, hv2⟩ := hs md (by omega)
      by_cases g2 : D md
      · have z : ¬ s ≤ v := fun h => hv2.mp h g2
        obtain ⟨r, a1, a2, a3, a4⟩ := ih (md + 1) hi f (by omega) (by omega) h3 (by omega) (fun i hi2 => by
          rcases Nat.lt_or_ge i md with g3 | g3
          · exact hD i md g3 (by omega) g2
          · rw [show i = md by omega]; exact g2) h5
        refine ⟨r, a1, ?_, a3, a4⟩
        simp (disch := omega) only [fX2_firstReaching_10_s, nI_le_iff, if_neg, hdv, xin_nI, nI_clamp, if_pos, h10, hv1, Option.bind_some, z, if_false, fX2_firstReaching_51_s, nI_add1, a2]
      · have z : s ≤ v := hv2.mpr g2
        obtain ⟨r, a1, a2, a3, a4⟩ := ih lo md f (by omega) (by omega) (by omega) (by omega) h4 (fun i h6 h7 h8 => by
          rcases Nat.lt_or_ge md i with g3 | g3
          · exact g2 (hD md i g3 h7 h8)
          · rw [show i = md by omega] at h8; exact g2 h8)
        refine ⟨r, a1, ?_, a3, a4⟩
        simp (disch := omega) only [fX2_firstReaching_10_s, nI_le_iff, if_neg, hdv, xin_nI, nI_clamp, if_pos, h10, hv1, Option.bind_some, z, if_true, fX2_firstReaching_51_s, a2]
/-- the two ends of where the pattern stands -/
theorem reach_ok (hc : RBc M n T tx st en SA rk cp cl) (hr : RP M m pt) : ∃ a b, a ≤ b ∧ b ≤ n ∧ fX2_firstReaching 0 M = some (nI a) ∧ fX2_firstReaching 1 M = some (nI b) ∧ (∀ p, p < n → (Eqp n T m pt p ↔ a ≤ rk p ∧ rk p < b)) ∧ (∀ p, p < n → (Lsp n T m pt p ↔ 0 ≤ rk p ∧ rk p < 0 + a)) := by
  have hn := hc.1.1
  have h4 := hc.2.2.1.1.1
  have hP := hc.2.1
  have z1 : (0 : Int32) ≤ 0 := by decide
  have z2 : ¬ (0 : Int32) ≤ -1 := by decide
  have z3 : (0 : Int32) ≤ 1 := by decide
  have z4 : ¬ (1 : Int32) ≤ 0 := by decide
  have z5 : ¬ (1 : Int32) ≤ -1 := by decide
  have z6 : (1 : Int32) ≤ 1 := by decide
  have ne : ∀ p, Lsp n T m pt p → ¬ Eqp n T m pt p := fun p h1 h2 => by have := h1.1; unfold Eqp at h2; omega
  obtain ⟨a, a1, a2, a3, a4⟩ := reach_loop hc (s := 0) (D := fun i => Lsp n T m pt (SA i)) (fun i hi => ⟨_, side_ok hc hr (hP.1 i hi).1, by
    by_cases g : Eqp n T m pt (SA i)
    · rw [if_pos g]; exact ⟨fun _ h => ne _ h g, fun _ => z1⟩
    · rw [if_neg g]
      by_cases g2 : Lsp n T m pt (SA i)
      · rw [if_pos g2]; exact ⟨fun h => absurd h z2, fun h => absurd g2 h⟩
      · rw [if_neg g2]; exact ⟨fun _ => g2, fun _ => z3⟩⟩) (fun i j h1 h2 h3 => (ls_dn hc.1 (hP.1 i (by omega)).1 (hP.1 j h2).1 (hP.2.2 i j h1 h2) h3).1) n 0 n 4096 (by omega) (by omega) (by omega) (by omega) (fun i hi => by omega) (fun i h1 h2 => by omega)
  obtain ⟨b, b1, b2, b3, b4⟩ := reach_loop hc (s := 1) (D := fun i => Lsp n T m pt (SA i) ∨ Eqp n T m pt (SA i)) (fun i hi => ⟨_, side_ok hc hr (hP.1 i hi).1, by
    by_cases g : Eqp n T m pt (SA i)
    · rw [if_pos g]; exact ⟨fun h => absurd h z4, fun h => absurd (Or.inr g) h⟩
    · rw [if_neg g]
      by_cases g2 : Lsp n T m pt (SA i)
      · rw [if_pos g2]; exact ⟨fun h => absurd h z5, fun h => absurd (Or.inl g2) h⟩
      · rw [if_neg g2]; exact ⟨fun _ h => by rcases h with h | h; exact g2 h; exact g h, fun _ => z6⟩⟩) (fun i j h1 h2 h3 => by
      have hi := (hP.1 i (by omega)).1
      have hj := (hP.1 j h2).1
      have hs := hP.2.2 i j h1 h2
      by_cases g1 : Eqp n T m pt (SA i)
      · exact Or.inr g1
      · by_cases g2 : Lsp n T m pt (SA i)
        · exact Or.inl g2
        · obtain ⟨c1, c2, -⟩ := gt_up hc.1 hi hj hs g1 g2
          rcases h3 with h | h
          · exact absurd h c2
          · exact absurd h c1) n 0 n 4096 (by omega) (by omega) (by omega) (by omega) (fun i hi => by omega) (fun i h1 h2 => by omega)
  have hab : a ≤ b := by
    rcases Nat.lt_or_ge b a with g | g
    · exact absurd (Or.inl (a3 b g)) (b4 b (Nat.le_refl b) (by omega))
    · exact g
  refine ⟨a, b, hab, b1, by rw [fX2_firstReaching_s, h4]; exact a2, by rw [fX2_firstReaching_s, h4]; exact b2, fun p hp => ?_, fun p hp => ?_⟩
  · have hk := hP.2.1 p hp
    constructor
    · intro g
      constructor
      · rcases Nat.lt_or_ge (rk p) a with g2 | g2
        · have := a3 _ g2
          simp only [hk.2] at this
          exact absurd g (ne p this)
        · exact g2
      · rcases Nat.lt_or_ge (rk p) b with g2 | g2
        · exact g2
        · have := b4 _ g2 hk.1
          simp only [hk.2] at this
          exact absurd (Or.inr g) this
    · intro g
      have c1 := a4 _ g.1 hk.1
      have c2 := b3 _ g.2
      simp only [hk.2] at c1 c2
      rcases c2 with h | h
      · exact absurd h c1
      · exact h
  · have hk := hP.2.1 p hp
    constructor
    · intro g
      refine ⟨Nat.zero_le _, ?_⟩
      rcases Nat.lt_or_ge (rk p) a with g2 | g2
      · omega
      · have := a4 _ g2 hk.1
        simp only [hk.2] at this
        exact absurd g this
    · intro g
      have c1 := a3 (rk p) (by omega)
      simp only [hk.2] at c1
      exact c1
def isMx (n : Nat) (T : Nat → Nat) (m : Nat) (pt : Nat → Nat) (k L : Nat) : Prop := (∀ p, p < k → mtx n T m pt p ≤ L) ∧ (L = 0 ∨ ∃ p, p < k ∧ mtx n T m pt p = L)
theorem isMx.one {k L L' : Nat} (h : isMx n T m pt k L) (h' : isMx n T m pt k L') : L = L' := by
  have a : ∀ {A B}, isMx n T m pt k A → isMx n T m pt k B → A ≤ B := fun {A B} hA hB => by
    rcases hA.2 with g | ⟨q, g1, g2⟩
    · omega
    · have := hB.1 q g1; omega
  exact Nat.le_antisymm (a h h') (a h' h)
theorem begin_ok (hc : RBc M n T tx st en SA rk cp cl) (hr : RP M m pt) {a b : Nat} (hab : a ≤ b) (hb : b ≤ n) (hE : ∀ p, p < n → (Eqp n T m pt p ↔ a ≤ rk p ∧ rk p < b)) (hL : ∀ p, p < n → (Lsp n T m pt p ↔ 0 ≤ rk p ∧ rk p < 0 + a)) : ∃ L, fX2_longestBeginning (nI a) M = some (nI L) ∧ isMx n T m pt n L := by
  have hn := hc.1.1
  have hP := hc.2.1
  have hm4 := hr.1
  have h4 := hc.2.2.1.1.1
  have lo : 0 < a → ∀ p, p < n → rk p < a → mtx n T m pt p ≤ mtx n T m pt (SA (a - 1)) := by
    intro h0 p hp hk
    have h1 := hP.1 (a - 1) (by omega)
    have hk2 := hP.2.1 p hp
    rcases Nat.lt_or_ge (rk p) (a - 1) with g | g
    · have hs := hP.2.2 (rk p) (a - 1) g (by omega)
      rw [hk2.2] at hs
      exact (ls_dn hc.1 hp h1.1 hs ((hL _ h1.1).mpr (by rw [h1.2]; omega))).2
    · have : rk p = a - 1 := by omega
      rw [← this, hk2.2]
      exact Nat.le_refl _
  have hi : a < n → ∀ p, p < n → a ≤ rk p → mtx n T m pt p ≤ mtx n T m pt (SA a) := by
    intro h0 p hp hk
    have h1 := hP.1 a h0
    have hk2 := hP.2.1 p hp
    have hnl : ¬ Lsp n T m pt (SA a) := fun h => by have := (hL _ h1.1).mp h; rw [h1.2] at this; omega
    by_cases g2 : Eqp n T m pt (SA a)
    · unfold Eqp at g2
      rw [g2]
      exact mt_le
    · rcases Nat.lt_or_ge a (rk p) with g | g
      · have hs := hP.2.2 a (rk p) g hk2.1
        rw [hk2.2] at hs
        exact (gt_up hc.1 h1.1 hp hs g2 hnl).2.2
      · have : rk p = a := by omega
        rw [← this, hk2.2]
        exact Nat.le_refl _
  have part : ∀ L, (∀ p, p < n → rk p < a → mtx n T m pt p ≤ L) → (L = 0 ∨ ∃ p, p < n ∧ mtx n T m pt p = L) → L ≤ 40 → ∃ L2, fX2_longestBeginning_22 (nI a) (nI L) M = some (nI L2) ∧ isMx n T m pt n L2 := by
    intro L h1 h2 h3
    by_cases g : n ≤ a
    · refine ⟨L, by simp (disch := omega) only [fX2_longestBeginning_22_s, h4, nI_le_iff, if_pos], fun p hp => h1 p hp ?_, h2⟩
      have := (hP.2.1 p hp).1
      omega
    · have hs := (hP.1 a (by omega)).1
      have h10 := hc.2.2.1.2.1 a (by omega)
      have hle := @mt_le n T m pt (SA a)
      by_cases g2 : L < mtx n T m pt (SA a)
      · refine ⟨mtx n T m pt (SA a), by simp (disch := omega) only [fX2_longestBeginning_22_s, h4, nI_le_iff, if_neg, xin_nI, nI_clamp, if_pos, h10, alikeAt_ok hc hr hs, Option.bind_some, nI_lt_iff, xlt_def], fun p hp => ?_, Or.inr ⟨SA a, hs, rfl⟩⟩
        rcases Nat.lt_or_ge (rk p) a with g3 | g3
        · have := h1 p hp g3; omega
        · exact hi (by omega) p hp g3
      · refine ⟨L, by simp (disch := omega) only [fX2_longestBeginning_22_s, h4, nI_le_iff, if_neg, xin_nI, nI_clamp, if_pos, h10, alikeAt_ok hc hr hs, Option.bind_some, nI_lt_iff, xlt_def], fun p hp => ?_, h2⟩
        rcases Nat.lt_or_ge (rk p) a with g3 | g3
        · exact h1 p hp g3
        · have := hi (by omega) p hp g3; omega
  by_cases g : a = 0
  · obtain ⟨L, e1, e2⟩ := part 0 (fun p hp h => by omega) (Or.inl rfl) (by omega)
    refine ⟨L, ?_, e2⟩
    have z : nI a ≤ 0 := (nI_le0 (by omega)).mpr g
    rw [fX2_longestBeginning_s, if_pos z]
    exact e1
  · have hs := (hP.1 (a - 1) (by omega)).1
    have h10 := hc.2.2.1.2.1 (a - 1) (by omega)
    have hle := @mt_le n T m pt (SA (a - 1))
    obtain ⟨L, e1, e2⟩ := part (mtx n T m pt (SA (a - 1))) (lo (by omega)) (Or.inr ⟨_, hs, rfl⟩) (by omega)
    refine ⟨L, ?_, e2⟩
    simp (disch := omega) only [fX2_longestBeginning_s, nI_le0, if_neg, nI_m1, xin_nI, nI_clamp, if_pos, h10, alikeAt_ok hc hr hs, Option.bind_some, e1]
end FND
