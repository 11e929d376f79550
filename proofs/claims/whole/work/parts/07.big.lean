/-- k steps, alike on both sides -/
def rn_Go (n : Nat) (oc : Int32) (K A B C P Q : Nat → Int32) : Nat → Nat → rn_St → Nat → rn_St → Prop
  | 0 => fun p s q s' => p = q ∧ s = s'
  | k + 1 => fun p s q s' => p < n ∧ ∃ p1 s1, rn_One n oc K A B C P Q p s p1 s1 ∧ rn_Go n oc K A B C P Q k p1 s1 q s'
section
variable {n : Nat} {oc : Int32} {K A B C P Q : Nat → Int32}
theorem rn_go1 {p q : Nat} {s s' : rn_St} (hp : p < n) (h : rn_One n oc K A B C P Q p s q s') : rn_Go n oc K A B C P Q 1 p s q s' :=
  ⟨hp, q, s', h, rfl, rfl⟩
theorem rn_goT : ∀ (k1 : Nat) {k2 p q r : Nat} {s t w : rn_St}, rn_Go n oc K A B C P Q k1 p s q t → rn_Go n oc K A B C P Q k2 q t r w → rn_Go n oc K A B C P Q (k1 + k2) p s r w := by
  intro k1
  induction k1 with
  | zero =>
    intro k2 p q r s t w h1 h2
    obtain ⟨e1, e2⟩ := h1
    subst e1; subst e2
    rw [Nat.zero_add]; exact h2
  | succ k1 ih =>
    intro k2 p q r s t w h1 h2
    obtain ⟨hp, p1, s1, h3, h4⟩ := h1
    have e : k1 + 1 + k2 = (k1 + k2) + 1 := by omega
    rw [e]
    exact ⟨hp, p1, s1, h3, ih h4 h2⟩
theorem rn_goB : ∀ (k : Nat) {p q : Nat} {s t : rn_St}, rn_Go n oc K A B C P Q k p s q t → t.1 ≤ s.1 + k := by
  intro k
  induction k with
  | zero =>
    intro p q s t h
    rw [h.2]; omega
  | succ k ih =>
    intro p q s t h
    obtain ⟨hp, p1, s1, h3, h4⟩ := h
    have h5 := ih h4
    have h6 := h3.1
    omega
end
/-- what l places from p cost at most, by depth above m -/
def rn_c (K : Nat → Int32) (m : Int) : Nat → Nat → Nat
  | 0 => fun _ => 0
  | l + 1 => fun p => 5 ^ (gs_d K p - m).toNat + rn_c K m l (p + 1)
theorem rn_cS (K : Nat → Int32) (m : Int) : ∀ a b p, rn_c K m (a + b) p = rn_c K m a p + rn_c K m b (p + a) := by
  intro a
  induction a with
  | zero => intro b p; simp [rn_c]
  | succ a ih =>
    intro b p
    have e : a + 1 + b = (a + b) + 1 := by omega
    have e' : p + (a + 1) = p + 1 + a := by omega
    rw [e, e']
    show 5 ^ (gs_d K p - m).toNat + rn_c K m (a + b) (p + 1) = 5 ^ (gs_d K p - m).toNat + rn_c K m a (p + 1) + rn_c K m b (p + 1 + a)
    rw [ih b (p + 1)]; omega
theorem rn_cM (K : Nat → Int32) (m : Int) : ∀ l p, (∀ j, p ≤ j → j < p + l → m + 1 ≤ gs_d K j) → rn_c K m l p = 5 * rn_c K (m + 1) l p := by
  intro l
  induction l with
  | zero => intro p _; rfl
  | succ l ih =>
    intro p h
    show 5 ^ (gs_d K p - m).toNat + rn_c K m l (p + 1) = 5 * (5 ^ (gs_d K p - (m + 1)).toNat + rn_c K (m + 1) l (p + 1))
    have h1 := h p (by omega) (by omega)
    have e : (gs_d K p - m).toNat = (gs_d K p - (m + 1)).toNat + 1 := by omega
    rw [e, ih (p + 1) (fun j h1 h2 => h j (by omega) (by omega)), Nat.pow_succ, Nat.mul_add]
    omega
theorem rn_cB (K : Nat → Int32) : ∀ l p, (∀ j, p ≤ j → j < p + l → gs_d K j ≤ 3) → rn_c K 0 l p ≤ 125 * l := by
  intro l
  induction l with
  | zero => intro p _; exact Nat.le_refl _
  | succ l ih =>
    intro p h
    show 5 ^ (gs_d K p - 0).toNat + rn_c K 0 l (p + 1) ≤ 125 * (l + 1)
    have h1 := h p (by omega) (by omega)
    have h2 := ih (p + 1) (fun j h1 h2 => h j (by omega) (by omega))
    have h3 : 5 ^ (gs_d K p - 0).toNat ≤ 5 ^ 3 := Nat.pow_le_pow_right (by decide) (by omega)
    have h4 : (5 : Nat) ^ 3 = 125 := by decide
    omega
/-- a stretch that opens and closes within itself -/
def rn_Seg (n : Nat) (K : Nat → Int32) (p q : Nat) : Prop := q ≤ n ∧ gs_d K q = gs_d K p ∧ (∀ j, p ≤ j → j ≤ q → gs_d K p ≤ gs_d K j) ∧ (∀ e, p ≤ e → e < q → K e = 9 → ∃ o, p ≤ o ∧ gs_O K e o)
section
variable {n : Nat} {oc : Int32} {K A B C P Q : Nat → Int32}
/-- the rounds of a loop -/
theorem rn_rnd (H : rn_H n K A B C P) {p c D : Nat} (hcn : c < n) (h : K p = 10) (hKc : K c = 11) (hOc : gs_O K c p) (body : ∀ s : rn_St, ∃ k s', k ≤ D ∧ rn_Go n oc K A B C P Q k (p + 1) s c s' ∧ ∀ j, j < p + 1 → s'.2.2.2 j = s.2.2.2 j) : ∀ r, r < 99 → ∀ s : rn_St, s.2.2.2 p = nI (r + 1) → ∃ k s', k ≤ (r + 1) * (D + 1) ∧ rn_Go n oc K A B C P Q k (p + 1) s (c + 1) s' ∧ ∀ j, j < p → s'.2.2.2 j = s.2.2.2 j := by
  intro r
  induction r with
  | zero =>
    intro hr s hL
    obtain ⟨k, s1, hk, hG, hj⟩ := body s
    have hL1 : s1.2.2.2 p = nI (0 + 1) := by rw [hj p (by omega)]; exact hL
    have h1 := rn_eo (oc := oc) (Q := Q) H hcn hKc hOc h (by omega) s1 hL1
    rw [if_pos rfl] at h1
    refine ⟨k + 1, _, by omega, rn_goT k hG (rn_go1 hcn h1), fun j h2 => ?_⟩
    show upd s1.2.2.2 p (nI 0) j = s.2.2.2 j
    rw [gs_un (by omega)]; exact hj j (by omega)
  | succ r ih =>
    intro hr s hL
    obtain ⟨k, s1, hk, hG, hj⟩ := body s
    have hL1 : s1.2.2.2 p = nI (r + 1 + 1) := by rw [hj p (by omega)]; exact hL
    have h1 := rn_eo (oc := oc) (Q := Q) H hcn hKc hOc h (by omega) s1 hL1
    rw [if_neg (by omega)] at h1
    obtain ⟨k2, s2, hk2, hG2, hj2⟩ := ih (by omega) (s1.1, s1.2.1, s1.2.2.1, upd s1.2.2.2 p (nI (r + 1))) gs_us
    have e : (r + 1 + 1) * (D + 1) = (r + 1) * (D + 1) + (D + 1) := Nat.succ_mul _ _
    refine ⟨k + (1 + k2), s2, by rw [e]; omega, rn_goT k hG (rn_goT 1 (rn_go1 hcn h1) hG2), fun j h2 => ?_⟩
    rw [hj2 j h2]
    show upd s1.2.2.2 p (nI (r + 1)) j = s.2.2.2 j
    rw [gs_un (by omega)]; exact hj j (by omega)
/-- an opening with its END: from its place behind its END -/
theorem rn_blk (H : rn_H n K A B C P) {p b : Nat} (hcn : p + 1 + b < n) (hop : K p = 8 ∨ K p = 10) (hKc : K (p + 1 + b) = 11) (hOc : gs_O K (p + 1 + b) p) (hE : ∀ e, p ≤ e → e < p + 1 + b → K e = 9 → ∃ o, p ≤ o ∧ gs_O K e o) (ih : ∀ x, x ≤ b → ∀ q, rn_Seg n K q (q + x) → ∀ s : rn_St, ∃ k s', k ≤ rn_c K (gs_d K q) x q ∧ rn_Go n oc K A B C P Q k q s (q + x) s' ∧ ∀ j, j < q → s'.2.2.2 j = s.2.2.2 j) (s : rn_St) : ∃ k s', k ≤ 1 + 5 * (rn_c K (gs_d K p + 1) b (p + 1) + 1) ∧ rn_Go n oc K A B C P Q k p s (p + 1 + b + 1) s' ∧ ∀ j, j < p → s'.2.2.2 j = s.2.2.2 j := by
  have hpn : p < n := by omega
  have hS := H.2.1
  have hd1 := gs_up hop
  have hdc := hOc.2.1
  rcases hop with h8 | h10
  · by_cases he : ∃ e, e < n ∧ K e = 9 ∧ gs_O K e p
    · obtain ⟨e, e1, e2, e3⟩ := he
      have hpe := e3.1
      have hde := e3.2.1
      have hec := gs_elc hKc hOc e3
      have hec' : e ≠ p + 1 + b := fun z => gs_e119 (by rw [← hKc, ← z]; exact e2)
      have hde1 := gs_eq (gs_nop9 e2) (by rw [e2]; exact gs_e911)
      obtain ⟨x, hx⟩ : ∃ x, e = p + 1 + x := ⟨e - p - 1, by omega⟩
      obtain ⟨y, hy⟩ : ∃ y, b = x + 1 + y := ⟨b - x - 1, by omega⟩
      have hcost := rn_cS K (gs_d K p + 1) (x + 1) y (p + 1)
      have hcost2 := rn_cS K (gs_d K p + 1) x 1 (p + 1)
      rw [← hy] at hcost
      rcases rn_ife (oc := oc) (Q := Q) H hcn h8 hKc hOc e1 e2 e3 s with h | h
      · obtain ⟨k, s1, hk, hG, hj⟩ := ih x (by omega) (p + 1) ⟨by omega, by rw [← hx]; omega, fun j j1 j2 => by have := e3.2.2 j (by omega) (by omega); omega, fun e' e4 e5 e6 => by
            obtain ⟨o, o1, o2⟩ := hE e' (by omega) (by omega) e6
            by_cases z : o = p
            · have := rn_eluq hS e1 e2 e3 (by omega) e6 (z ▸ o2); omega
            · exact ⟨o, by omega, o2⟩⟩ s
        rw [← hx] at hG
        rw [hd1] at hk
        have h2 := rn_else (oc := oc) (Q := Q) H e1 hcn e2 e3 hKc hOc s1
        exact ⟨1 + (k + 1), s1, by omega, rn_goT 1 (rn_go1 hpn h) (rn_goT k hG (rn_go1 e1 h2)), fun j hj' => hj j (by omega)⟩
      · obtain ⟨k, s1, hk, hG, hj⟩ := ih y (by omega) (e + 1) ⟨by omega, by
            have z : e + 1 + y = p + 1 + b := by omega
            rw [z]; omega, fun j j1 j2 => by have := hOc.2.2 j (by omega) (by omega); omega, fun e' e4 e5 e6 => by
            obtain ⟨o, o1, o2⟩ := hE e' (by omega) (by omega) e6
            by_cases z : o = p
            · have := rn_eluq hS e1 e2 e3 (by omega) e6 (z ▸ o2); omega
            · by_cases z1 : o = e
              · rw [z1] at o2; exact absurd e2 (gs_no9 (gs_OK o2))
              · by_cases z2 : e < o
                · exact ⟨o, by omega, o2⟩
                · exfalso
                  have w1 := o2.2.2 e (by omega) (by omega)
                  have w2 := o2.2.1
                  have w3 := hOc.2.2 o (by omega) (by omega)
                  omega⟩ s
        have z : e + 1 + y = p + 1 + b := by omega
        have z' : p + 1 + (x + 1) = e + 1 := by omega
        have z2 : gs_d K (e + 1) = gs_d K p + 1 := by omega
        rw [z] at hG
        rw [z'] at hcost
        rw [z2] at hk
        have h2 := rn_ei (oc := oc) (Q := Q) H hcn hKc hOc h8 s1
        exact ⟨1 + (k + 1), s1, by omega, rn_goT 1 (rn_go1 hpn h) (rn_goT k hG (rn_go1 hcn h2)), fun j hj' => hj j (by omega)⟩
    · have hne : ∀ e, e < n → K e = 9 → ¬ gs_O K e p := fun e a b c => he ⟨e, a, b, c⟩
      rcases rn_ifn (oc := oc) (Q := Q) H hcn h8 hKc hOc hne s with h | h
      · obtain ⟨k, s1, hk, hG, hj⟩ := ih b (by omega) (p + 1) ⟨by omega, by omega, fun j j1 j2 => by have := hOc.2.2 j (by omega) (by omega); omega, fun e' e4 e5 e6 => by
            obtain ⟨o, o1, o2⟩ := hE e' (by omega) (by omega) e6
            by_cases z : o = p
            · exact absurd (z ▸ o2) (hne e' (by omega) e6)
            · exact ⟨o, by omega, o2⟩⟩ s
        rw [hd1] at hk
        have h2 := rn_ei (oc := oc) (Q := Q) H hcn hKc hOc h8 s1
        exact ⟨1 + (k + 1), s1, by omega, rn_goT 1 (rn_go1 hpn h) (rn_goT k hG (rn_go1 hcn h2)), fun j hj' => hj j (by omega)⟩
      · exact ⟨1, s, by omega, rn_go1 hpn h, fun j _ => rfl⟩
  · have body : ∀ s : rn_St, ∃ k s', k ≤ rn_c K (gs_d K p + 1) b (p + 1) ∧ rn_Go n oc K A B C P Q k (p + 1) s (p + 1 + b) s' ∧ ∀ j, j < p + 1 → s'.2.2.2 j = s.2.2.2 j := by
      intro s
      have h1 := ih b (by omega) (p + 1) ⟨by omega, by omega, fun j j1 j2 => by have := hOc.2.2 j (by omega) (by omega); omega, fun e' e4 e5 e6 => by
            obtain ⟨o, o1, o2⟩ := hE e' (by omega) (by omega) e6
            by_cases z : o = p
            · have := rn_el8 hS (by omega) e6 o2
              rw [z, h10] at this; exact absurd this gs_e108
            · exact ⟨o, by omega, o2⟩⟩ s
      rw [hd1] at h1
      exact h1
    rcases rn_lo (oc := oc) (Q := Q) H hcn h10 hKc hOc s with ⟨L', h, hj⟩ | ⟨r, hr, h⟩
    · exact ⟨1, _, by omega, rn_go1 hpn h, hj⟩
    · obtain ⟨k, s1, hk, hG, hj⟩ := rn_rnd H hcn h10 hKc hOc body r (by omega) (s.1, s.2.1, s.2.2.1, upd s.2.2.2 p (nI (r + 1))) gs_us
      have hm : (r + 1) * (rn_c K (gs_d K p + 1) b (p + 1) + 1) ≤ 5 * (rn_c K (gs_d K p + 1) b (p + 1) + 1) := Nat.mul_le_mul_right _ (by omega)
      refine ⟨1 + k, s1, by omega, rn_goT 1 (rn_go1 hpn h) hG, fun j hj' => ?_⟩
      rw [hj j hj']
      show upd s.2.2.2 p (nI (r + 1)) j = s.2.2.2 j
      exact gs_un (by omega)
/-- a stretch is gone through, within its cost -/
theorem rn_big (H : rn_H n K A B C P) : ∀ l0 l, l ≤ l0 → ∀ p, rn_Seg n K p (p + l) → ∀ s : rn_St, ∃ k s', k ≤ rn_c K (gs_d K p) l p ∧ rn_Go n oc K A B C P Q k p s (p + l) s' ∧ ∀ j, j < p → s'.2.2.2 j = s.2.2.2 j := by
  intro l0
  induction l0 with
  | zero =>
    intro l hl p hg s
    have e : l = 0 := by omega
    subst e
    exact ⟨0, s, Nat.le_refl _, ⟨rfl, rfl⟩, fun _ _ => rfl⟩
  | succ l0 ih =>
    intro l hl p hg s
    cases l with
    | zero => exact ⟨0, s, Nat.le_refl _, ⟨rfl, rfl⟩, fun _ _ => rfl⟩
    | succ l =>
      obtain ⟨g1, g2, g3, g4⟩ := hg
      have hpn : p < n := by omega
      have e0 : (gs_d K p - gs_d K p).toNat = 0 := by omega
      have hcost : rn_c K (gs_d K p) (l + 1) p = 1 + rn_c K (gs_d K p) l (p + 1) := by
        show 5 ^ (gs_d K p - gs_d K p).toNat + rn_c K (gs_d K p) l (p + 1) = _
        rw [e0]
      by_cases hop : K p = 8 ∨ K p = 10
      · obtain ⟨c, c1, c2, c3, c4⟩ := gs_Cex (K := K) (n := p + (l + 1)) (i := p) (by omega) hop (by omega)
        obtain ⟨b, hb⟩ : ∃ b, c = p + 1 + b := ⟨c - p - 1, by omega⟩
        obtain ⟨r, hr⟩ : ∃ r, l = b + 1 + r := ⟨l - b - 1, by omega⟩
        subst hb
        have hdc := c4.2.1
        have hdc1 := gs_Oend c3 c4
        obtain ⟨k, s1, hk, hG, hj⟩ := rn_blk (oc := oc) (Q := Q) H (b := b) (by omega) hop c3 c4 (fun e a1 a2 a3 => g4 e a1 (by omega) a3) (fun x hx q => ih x (by omega) q) s
        obtain ⟨k2, s2, hk2, hG2, hj2⟩ := ih r (by omega) (p + 1 + b + 1) ⟨by omega, by
            have z : p + 1 + b + 1 + r = p + (l + 1) := by omega
            rw [z]; omega, fun j j1 j2 => by have := g3 j (by omega) (by omega); omega, fun e a1 a2 a3 => by
            obtain ⟨o, o1, o2⟩ := g4 e (by omega) (by omega) a3
            by_cases z : p + 1 + b < o
            · exact ⟨o, by omega, o2⟩
            · exfalso
              have w1 := o2.2.2 (p + 1 + b + 1) (by omega) (by omega)
              have w2 := o2.2.1
              have w3 := g3 o (by omega) (by have := o2.1; omega)
              omega⟩ s1
        have z : p + 1 + b + 1 + r = p + (l + 1) := by omega
        rw [z] at hG2
        rw [hdc1] at hk2
        have q1 := rn_cS K (gs_d K p) (b + 1) r (p + 1)
        have q2 := rn_cS K (gs_d K p) b 1 (p + 1)
        have q3 := rn_cM K (gs_d K p) b (p + 1) (fun j j1 j2 => by have := c4.2.2 j (by omega) (by omega); omega)
        have q4 : rn_c K (gs_d K p) 1 (p + 1 + b) = 5 := by
          show 5 ^ (gs_d K (p + 1 + b) - gs_d K p).toNat + 0 = 5
          have z : (gs_d K (p + 1 + b) - gs_d K p).toNat = 1 := by omega
          rw [z]
        have z' : p + 1 + (b + 1) = p + 1 + b + 1 := by omega
        rw [z', ← hr] at q1
        refine ⟨k + k2, s2, by rw [hcost]; omega, rn_goT k hG hG2, fun j hj' => ?_⟩
        rw [hj2 j (by omega)]; exact hj j hj'
      · have h11 : ¬ K p = 11 := by
          intro z
          have := gs_dn z
          have := g3 (p + 1) (by omega) (by omega)
          omega
        have h9 : ¬ K p = 9 := by
          intro z
          obtain ⟨o, o1, o2⟩ := g4 p (by omega) (by omega) z
          have := o2.1
          omega
        have hd := gs_eq hop h11
        obtain ⟨s1, h1, hL⟩ := rn_plain (oc := oc) (Q := Q) H hpn hop h9 h11 s
        obtain ⟨k, s2, hk, hG, hj⟩ := ih l (by omega) (p + 1) ⟨by omega, by
            have z : p + 1 + l = p + (l + 1) := by omega
            rw [z]; omega, fun j j1 j2 => by have := g3 j (by omega) (by omega); omega, fun e a1 a2 a3 => by
            obtain ⟨o, o1, o2⟩ := g4 e (by omega) (by omega) a3
            by_cases z : o = p
            · rw [z] at o2; exact absurd (gs_OK o2) hop
            · exact ⟨o, by omega, o2⟩⟩ s1
        have z : p + 1 + l = p + (l + 1) := by omega
        rw [z] at hG
        rw [hd] at hk
        refine ⟨1 + k, s2, by rw [hcost]; omega, rn_goT 1 (rn_go1 hpn h1) hG, fun j hj' => ?_⟩
        rw [hj j (by omega), hL]
/-- the whole program, within 5000 steps -/
theorem rn_all (H : rn_H n K A B C P) (s : rn_St) : ∃ k s', k ≤ 5000 ∧ rn_Go n oc K A B C P Q k 0 s n s' := by
  obtain ⟨hn, hS, hd, hP, hF⟩ := H
  have hg : rn_Seg n K 0 (0 + n) := by
    rw [Nat.zero_add]
    refine ⟨by omega, by rw [hd, gs_0], fun j j1 j2 => ?_, fun e a1 a2 a3 => ?_⟩
    · rw [gs_0]; exact (hS.1 j j2).1
    · obtain ⟨o, h1, _, _⟩ := hS.2 e a2 a3
      exact ⟨o, by omega, h1⟩
  obtain ⟨k, s', h1, h2, _⟩ := rn_big (oc := oc) (Q := Q) ⟨hn, hS, hd, hP, hF⟩ n n (by omega) 0 hg s
  rw [Nat.zero_add] at h2
  rw [gs_0] at h1
  have h3 := rn_cB K n 0 (fun j j1 j2 => (hS.1 j (by omega)).2)
  exact ⟨k, s', by omega, h2⟩
end
