/-! WHAT A CALL LEAVES AS IT WAS -/
theorem cmp_self (v : Int64) : lg_cmp v v = 0 := by
  unfold lg_cmp
  simp
theorem Kp.cl {ks : List Nat} {js : List (Nat × Nat)} {M M2 : xM} (h : Kp ks js M M2) {k : Nat} (hk : k ∉ ks) (hj : ∀ q, q ∈ js → q.1 ≠ k) : M2 k = M k := h.cell hk (fun j g => hj _ g rfl)
section KEP
variable {n : Nat} {T tx st en SA rk : Nat → Nat} {cp : Nat → Option Nat} {cl : Nat → Nat} {M M2 : xM} {ks : List Nat} {js : List (Nat × Nat)}
theorem RBc.k (h : RBc M n T tx st en SA rk cp cl) (K : Kp ks js M M2) (hk : ∀ k, k ∈ [4, 5, 6, 7, 8, 10, 11, 12, 26, 27, 28] → k ∉ ks ∧ ∀ q, q ∈ js → q.1 ≠ k) : RBc M2 n T tx st en SA rk cp cl := by
  have c : ∀ k, k ∈ [4, 5, 6, 7, 8, 10, 11, 12, 26, 27, 28] → M2 k = M k := fun k g => K.cl (hk k g).1 (hk k g).2
  exact h.kp (by rw [c 4 (by decide)]) (c 5 (by decide)) (c 6 (by decide)) (c 7 (by decide)) (c 8 (by decide)) (c 10 (by decide)) (c 11 (by decide)) (c 12 (by decide)) (c 26 (by decide)) (c 27 (by decide)) (c 28 (by decide))
theorem RBm.k (h : RBm M n T tx st SA rk) (K : Kp ks js M M2) (h37 : 37 ∉ ks ∧ (37, 6) ∉ js) (hk : ∀ k, k ∈ [40, 41, 42, 43, 44, 45] → k ∉ ks ∧ ∀ q, q ∈ js → q.1 ≠ k) : RBm M2 n T tx st SA rk := by
  have c : ∀ k, k ∈ [40, 41, 42, 43, 44, 45] → M2 k = M k := fun k g => K.cl (hk k g).1 (hk k g).2
  exact h.kp (K 37 h37.1 6 h37.2) (c 40 (by decide)) (c 41 (by decide)) (c 42 (by decide)) (c 43 (by decide)) (c 44 (by decide)) (c 45 (by decide))
theorem RD.k (h : RD M n) (K : Kp ks js M M2) (hk : ∀ k, k ∈ [36, 46] → k ∉ ks ∧ ∀ q, q ∈ js → q.1 ≠ k) : RD M2 n := fun i hi => by
  rw [K.cl (hk 36 (by decide)).1 (hk 36 (by decide)).2, K.cl (hk 46 (by decide)).1 (hk 46 (by decide)).2]
  exact h i hi
theorem RP.k {m : Nat} {pt : Nat → Nat} (h : RP M m pt) (K : Kp ks js M M2) (h32 : 32 ∉ ks ∧ (32, 3) ∉ js) (h37 : 37 ∉ ks ∧ (37, 12) ∉ js) (hk : ∀ k, k ∈ [33, 47] → k ∉ ks ∧ ∀ q, q ∈ js → q.1 ≠ k) : RP M2 m pt :=
  h.kp (K 32 h32.1 3 h32.2) (K.cl (hk 33 (by decide)).1 (hk 33 (by decide)).2) (K 37 h37.1 12 h37.2) (K.cl (hk 47 (by decide)).1 (hk 47 (by decide)).2)
theorem RTc.k {ct : Nat → Nat} {sg : Nat → Nat → Nat} (h : RTc M ct sg) (K : Kp ks js M M2) (hk : ∀ k, k ∈ [1, 2, 3] → k ∉ ks ∧ ∀ q, q ∈ js → q.1 ≠ k) : RTc M2 ct sg :=
  h.kp (K.cl (hk 1 (by decide)).1 (hk 1 (by decide)).2) (K.cl (hk 2 (by decide)).1 (hk 2 (by decide)).2) (K.cl (hk 3 (by decide)).1 (hk 3 (by decide)).2)
theorem RTm.k {ct : Nat → Nat} {sg : Nat → Nat → Nat} (h : RTm M ct sg) (K : Kp ks js M M2) (h37 : 37 ∉ ks ∧ (37, 2) ∉ js) (hk : ∀ k, k ∈ [38, 39] → k ∉ ks ∧ ∀ q, q ∈ js → q.1 ≠ k) : RTm M2 ct sg :=
  h.kp (K 37 h37.1 2 h37.2) (K.cl (hk 38 (by decide)).1 (hk 38 (by decide)).2) (K.cl (hk 39 (by decide)).1 (hk 39 (by decide)).2)
end KEP
theorem Rel.texts {M M2 : xM} (h : Rel M) {ct2 : Nat → Nat} {sg2 : Nat → Nat → Nat} (hc : RTc M2 ct2 sg2) (hm : RTm M2 ct2 sg2) (K : Kp [2, 3, 38, 39] [(1, 2), (37, 2)] M M2) : Rel M2 := by
  obtain ⟨ct, sg, n, T, tx, st, en, SA, rk, cp, cl, m, pt, -, -, a3, a4, a5, a6, a7⟩ := h
  exact ⟨ct2, sg2, n, T, tx, st, en, SA, rk, cp, cl, m, pt, hc, hm, a3.k K (by decide), a4.k K (by decide) (by decide), a5.k K (by decide), a6.k K (by decide) (by decide) (by decide), a7⟩
theorem Rel.patt {M M2 : xM} (h : Rel M) {m2 : Nat} {pt2 : Nat → Nat} (hp : RP M2 m2 pt2) (K : Kp [33, 47] [(32, 3), (37, 12)] M M2) : Rel M2 := by
  obtain ⟨ct, sg, n, T, tx, st, en, SA, rk, cp, cl, m, pt, a1, a2, a3, a4, a5, a6, a7⟩ := h
  exact ⟨ct, sg, n, T, tx, st, en, SA, rk, cp, cl, m2, pt2, a1.k K (by decide), a2.k K (by decide) (by decide), a3.k K (by decide), a4.k K (by decide) (by decide), a5.k K (by decide), hp, a7⟩
theorem Rel.other {M M2 : xM} (h : Rel M) {ks : List Nat} (F : Fr ks M M2) (hk : ∀ k, k ∈ ks → k = 48 ∨ k = 49) : Rel M2 := by
  have K : Kp [48, 49] [] M M2 := Kp.fr (F.mono (fun k hk' => by rcases hk k hk' with h | h <;> simp [h]))
  obtain ⟨ct, sg, n, T, tx, st, en, SA, rk, cp, cl, m, pt, a1, a2, a3, a4, a5, a6, a7⟩ := h
  exact ⟨ct, sg, n, T, tx, st, en, SA, rk, cp, cl, m, pt, a1.k K (by decide), a2.k K (by decide) (by decide), a3.k K (by decide), a4.k K (by decide) (by decide), a5.k K (by decide), a6.k K (by decide) (by decide) (by decide), a7⟩
theorem rel_zero : Rel (fun _ _ => 0) := by
  refine ⟨fun _ => 0, fun _ _ => 0, 0, fun _ => 0, fun _ => 0, fun _ => 0, fun _ => 0, fun _ => 0, fun _ => 0, fun _ => none, fun _ => 0, 0, fun _ => 0, ?_, ?_, ?_, ?_, ?_, ?_, ?_⟩
  · exact ⟨by decide, fun t ht => rfl, rfl, fun t k ht hk => absurd hk (Nat.not_lt_zero k)⟩
  · exact ⟨by decide, fun t ht => rfl, rfl, fun t k ht hk => absurd hk (Nat.not_lt_zero k)⟩
  · exact ⟨⟨by omega, fun p hp => absurd hp (by omega), fun p hp => absurd hp (by omega), fun p q hp => absurd hp (by omega)⟩, ⟨fun i hi => absurd hi (by omega), fun i hi => absurd hi (by omega), fun i j h1 h2 => absurd h2 (by omega)⟩, ⟨⟨rfl, fun p hp => absurd hp (by omega), fun t ht => ⟨rfl, rfl⟩⟩, fun i hi => absurd hi (by omega), fun i hi => absurd hi (by omega), fun i hi => absurd hi (by omega)⟩, fun p hp => absurd hp (by omega)⟩
  · exact ⟨⟨rfl, fun p hp => absurd hp (by omega), fun t ht => rfl⟩, fun a b ha hb => absurd ha (by omega), fun i hi => absurd hi (by omega), fun i hi => absurd hi (by omega)⟩
  · exact fun i hi => absurd hi (by omega)
  · exact ⟨by omega, rfl, rfl, fun j hj => absurd hj (by omega)⟩
  · exact fun p hp => absurd hp (by omega)
