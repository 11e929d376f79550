section
variable {n : Nat} {oc : Int32} {K A B C P Q : Nat → Int32}
theorem rr_x (hn : n ≤ 40) (post : Int32 → SX → Prop) : ∀ k p (s s' : rn_St), rn_Go n oc K A B C P Q k p s n s' → ∀ x, x + k ≤ 5000 → s.1 ≤ x → post (nI s'.1) (nI n, nI s'.1, oc, K, A, B, C, s'.2.1, s'.2.2.1, P, Q, s'.2.2.2) → wX_run_19 post (k + 1) (nI p) (nI x) (nI n) (nI s.1) oc K A B C s.2.1 s.2.2.1 P Q s.2.2.2 := by
  intro k
  induction k with
  | zero =>
    intro p s s' hG x hx hs H
    obtain ⟨e1, e2⟩ := hG
    subst e1; subst e2
    unfold wX_run_19
    exact br_f (nI_ge (b := 1000000) (by omega) (by decide)) (br_t (nI_le (by omega) (by omega)) H)
  | succ k ih =>
    intro p s s' hG x hx hs H
    obtain ⟨hp, p1, s1, h1, h2⟩ := hG
    unfold wX_run_19
    refine br_f (nI_ge (b := 1000000) (by omega) (by decide)) (br_f (nI_ge hp (by omega)) ((h1.2 (by omega)).1 _ ?_))
    exact nm_r (nI_1 x) (ih p1 s1 s' h2 (x + 1) (by omega) (by have := h1.1; omega) H)
theorem rr_y (hn : n ≤ 40) (post : Int32 → SY → Prop) : ∀ k p (s s' : rn_St), rn_Go n oc K A B C P Q k p s n s' → ∀ x, x + k ≤ 5000 → s.1 ≤ x → post (nI s'.1) (nI n, nI s'.1, K, A, B, C, s'.2.1, s'.2.2.1, s'.2.2.2) → wY_run_19 post (k + 1) (nI p) (nI x) (nI n) (nI s.1) K A B C s.2.1 s.2.2.1 s.2.2.2 := by
  intro k
  induction k with
  | zero =>
    intro p s s' hG x hx hs H
    obtain ⟨e1, e2⟩ := hG
    subst e1; subst e2
    unfold wY_run_19
    exact br_c (fun _ => H) (fun _ => br_t (nI_le (by omega) (by omega)) H)
  | succ k ih =>
    intro p s s' hG x hx hs H
    obtain ⟨hp, p1, s1, h1, h2⟩ := hG
    unfold wY_run_19
    refine br_f (nI_ge (b := 5000) (by omega) (by decide)) (br_f (nI_ge hp (by omega)) ((h1.2 (by omega)).2 _ ?_))
    exact nm_r (nI_1 x) (ih p1 s1 s' h2 (x + 1) (by omega) (by have := h1.1; omega) H)
end
section
variable {oc : Int32} {K A B C O P Q L : Nat → Int32}
theorem rr_clr : ∀ t j (V : Nat → Int32), j + t = 6 → ∃ V' : Nat → Int32, (∀ post : SX → Prop, post (0, 0, oc, K, A, B, C, V', O, P, Q, L) → wX_clear_12 post 0 0 oc (t + 1) (nI j) K A B C V O P Q L) ∧ (∀ post : SY → Prop, post (0, 0, K, A, B, C, V', O, L) → wY_clear_12 post 0 0 (t + 1) (nI j) K A B C V O L) := by
  intro t
  induction t with
  | zero =>
    intro j V hj
    have h : nI 6 ≤ nI j := nI_le (by omega) (by omega)
    refine ⟨V, fun post H => ?_, fun post H => ?_⟩
    · unfold wX_clear_12; exact br_t h H
    · unfold wY_clear_12; exact br_t h H
  | succ t ih =>
    intro j V hj
    have h : ¬ nI 6 ≤ nI j := nI_ge (by omega) (by omega)
    have hc : (nI j).toNatClampNeg = j := nI_clamp (by omega)
    have hi : vp_in (nI j) 6 := vp_in_nI (by omega) (by decide)
    obtain ⟨V', h1, h2⟩ := ih (j + 1) (upd V j 0) (by omega)
    refine ⟨V', fun post H => ?_, fun post H => ?_⟩
    · unfold wX_clear_12
      rw [hc]
      exact br_f h ⟨hi, nm_e (nm_r (nI_1 j) (h1 post H))⟩
    · unfold wY_clear_12
      rw [hc]
      exact br_f h ⟨hi, nm_e (nm_r (nI_1 j) (h2 post H))⟩
end
