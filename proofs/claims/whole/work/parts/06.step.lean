/-- a statement that add takes -/
def rn_F (k a b c : Int32) : Prop := ∃ kk : Nat, kk ≤ 11 ∧ k = nI kk ∧ (kk ≠ 9 → kk ≠ 11 → ∃ j, j < 6 ∧ a = nI j) ∧ (1 ≤ kk → kk ≤ 6 → ∃ j, j < 6 ∧ b = nI j) ∧ (2 ≤ kk → kk ≤ 6 → ∃ j, j < 6 ∧ c = nI j)
/-- a sound program with its table of partners -/
def rn_H (n : Nat) (K A B C P : Nat → Int32) : Prop := n ≤ 40 ∧ gs_S K n ∧ gs_d K n = 0 ∧ gs_P K n P ∧ ∀ i, i < n → rn_F (K i) (A i) (B i) (C i)
/-- what a run changes: count printed, variables, output, passes left -/
abbrev rn_St : Type := Nat × (Nat → Int32) × (Nat → Int32) × (Nat → Int32)
/-- both sides pass p alike -/
def rn_One (n : Nat) (oc : Int32) (K A B C P Q : Nat → Int32) (p : Nat) (s : rn_St) (p' : Nat) (s' : rn_St) : Prop :=
  s'.1 ≤ s.1 + 1 ∧ (s.1 < 100000 → (∀ post : Int32 → SX → Prop, post (nI p') (nI n, nI s'.1, oc, K, A, B, C, s'.2.1, s'.2.2.1, P, Q, s'.2.2.2) → wpX_pass post (nI n, nI s.1, oc, K, A, B, C, s.2.1, s.2.2.1, P, Q, s.2.2.2) (nI p)) ∧ (∀ post : Int32 → SY → Prop, post (nI p') (nI n, nI s'.1, K, A, B, C, s'.2.1, s'.2.2.1, s'.2.2.2) → wpY_pass post (nI n, nI s.1, K, A, B, C, s.2.1, s.2.2.1, s.2.2.2) (nI p)))
theorem rn_lt7 {k : Nat} (h : k ≤ 6) : nI k < 7 := nI_lt (b := 7) (by omega) (by decide)
section
variable {n : Nat} {oc : Int32} {K A B C P Q : Nat → Int32} {p : Nat}
/-- the operand of a statement that has one -/
theorem rn_a {k a b c : Int32} (h : rn_F k a b c) (h9 : ¬ k = 9) (h11 : ¬ k = 11) : ∃ j, j < 6 ∧ a = nI j := by
  obtain ⟨kk, h1, h2, h3, _, _⟩ := h
  exact h3 (fun z => h9 (by rw [h2, z]; decide)) (fun z => h11 (by rw [h2, z]; decide))
theorem rn_plain (H : rn_H n K A B C P) (hp : p < n) (h8 : ¬ (K p = 8 ∨ K p = 10)) (h9 : ¬ K p = 9) (h11 : ¬ K p = 11) (s : rn_St) : ∃ s', rn_One n oc K A B C P Q p s (p + 1) s' ∧ s'.2.2.2 = s.2.2.2 := by
  obtain ⟨hn, hS, hd, hP, hF⟩ := H
  have hp4 : p < 40 := by omega
  obtain ⟨a, ha, hA⟩ := rn_a (hF p hp) h9 h11
  obtain ⟨kk, k1, k2, _, k4, k5⟩ := hF p hp
  obtain ⟨f, V, O, L⟩ := s
  have c0 : kk = 0 ∨ kk = 1 ∨ kk = 2 ∨ kk = 3 ∨ kk = 4 ∨ kk = 5 ∨ kk = 6 ∨ kk = 7 ∨ kk = 8 ∨ kk = 9 ∨ kk = 10 ∨ kk = 11 := by omega
  rcases c0 with c | c | c | c | c | c | c | c | c | c | c | c <;> subst c
  · have hK : K p = 0 := by rw [k2]; decide
    exact ⟨(f, upd V a (B p), O, L), ⟨by simp, fun _ => ⟨fun post H => ps_xas hp4 (by rw [k2]; decide) (ps_as0 hp4 ha hA hK H), fun post H => py_plain hp4 h8 h9 h11 (py_p0 hp4 ha hA hK H)⟩⟩, rfl⟩
  · have hK : K p = 1 := by rw [k2]; decide
    obtain ⟨b, hb, hB⟩ := k4 (by omega) (by omega)
    exact ⟨(f, upd V a (V b), O, L), ⟨by simp, fun _ => ⟨fun post H => ps_xas hp4 (by rw [k2]; decide) (ps_as1 hp4 ha hA hb hB hK H), fun post H => py_plain hp4 h8 h9 h11 (py_p1 hp4 ha hA hb hB hK H)⟩⟩, rfl⟩
  · have hK : K p = 2 := by rw [k2]; decide
    obtain ⟨b, hb, hB⟩ := k4 (by omega) (by omega)
    obtain ⟨c, hc, hC⟩ := k5 (by omega) (by omega)
    exact ⟨(f, upd V a (V b + V c), O, L), ⟨by simp, fun _ => ⟨fun post H => ps_xas hp4 (by rw [k2]; decide) (ps_as2 hp4 ha hA hb hB hc hC (by rw [hK]; decide) (by rw [hK]; decide) (V b + V c) (fun _ h => ps_cmb2 hK h) H), fun post H => py_plain hp4 h8 h9 h11 (py_p2 hp4 ha hA hb hB hc hC hK H)⟩⟩, rfl⟩
  · have hK : K p = 3 := by rw [k2]; decide
    obtain ⟨b, hb, hB⟩ := k4 (by omega) (by omega)
    obtain ⟨c, hc, hC⟩ := k5 (by omega) (by omega)
    exact ⟨(f, upd V a (V b - V c), O, L), ⟨by simp, fun _ => ⟨fun post H => ps_xas hp4 (by rw [k2]; decide) (ps_as2 hp4 ha hA hb hB hc hC (by rw [hK]; decide) (by rw [hK]; decide) (V b - V c) (fun _ h => ps_cmb3 hK h) H), fun post H => py_plain hp4 h8 h9 h11 (py_p3 hp4 ha hA hb hB hc hC hK H)⟩⟩, rfl⟩
  · have hK : K p = 4 := by rw [k2]; decide
    obtain ⟨b, hb, hB⟩ := k4 (by omega) (by omega)
    obtain ⟨c, hc, hC⟩ := k5 (by omega) (by omega)
    exact ⟨(f, upd V a (V b * V c), O, L), ⟨by simp, fun _ => ⟨fun post H => ps_xas hp4 (by rw [k2]; decide) (ps_as2 hp4 ha hA hb hB hc hC (by rw [hK]; decide) (by rw [hK]; decide) (V b * V c) (fun _ h => ps_cmb4 hK h) H), fun post H => py_plain hp4 h8 h9 h11 (py_p4 hp4 ha hA hb hB hc hC hK H)⟩⟩, rfl⟩
  · have hK : K p = 5 := by rw [k2]; decide
    obtain ⟨b, hb, hB⟩ := k4 (by omega) (by omega)
    obtain ⟨c, hc, hC⟩ := k5 (by omega) (by omega)
    exact ⟨(f, upd V a (V b ^^^ V c), O, L), ⟨by simp, fun _ => ⟨fun post H => ps_xas hp4 (by rw [k2]; decide) (ps_as2 hp4 ha hA hb hB hc hC (by rw [hK]; decide) (by rw [hK]; decide) (V b ^^^ V c) (fun _ h => ps_cmb5 hK h) H), fun post H => py_plain hp4 h8 h9 h11 (py_p5 hp4 ha hA hb hB hc hC hK H)⟩⟩, rfl⟩
  · have hK : K p = 6 := by rw [k2]; decide
    obtain ⟨b, hb, hB⟩ := k4 (by omega) (by omega)
    obtain ⟨c, hc, hC⟩ := k5 (by omega) (by omega)
    refine ⟨(f, upd V a (if V c ≤ V b then 0 else 1), O, L), ⟨by simp, fun _ => ⟨fun post H => ps_xas hp4 (by rw [k2]; decide) (ps_as2 hp4 ha hA hb hB hc hC (by rw [hK]; decide) (by rw [hK]; decide) (if V c ≤ V b then 0 else 1) (fun _ h => ?_) H), fun post H => py_plain hp4 h8 h9 h11 (py_p6 hp4 ha hA hb hB hc hC hK H)⟩⟩, rfl⟩
    by_cases z : V c ≤ V b
    · rw [if_pos z] at h; exact ps_cmb6a hK z h
    · rw [if_neg z] at h; exact ps_cmb6b hK z h
  · have hK : K p = 7 := by rw [k2]; decide
    exact ⟨(f + 1, V, (if 64 ≤ f then O else upd O f (V a)), L), ⟨by simp, fun hf => ⟨fun post H => ps_xpr hp4 ha hA hf hK H, fun post H => py_plain hp4 h8 h9 h11 (py_p7 hp4 ha hA hf hK H)⟩⟩, rfl⟩
  · exact absurd (Or.inl (by rw [k2]; decide)) h8
  · exact absurd (by rw [k2]; decide) h9
  · exact absurd (Or.inr (by rw [k2]; decide)) h8
  · exact absurd (by rw [k2]; decide) h11
/-- an ELSE's opener is an IFPOS, and has no other ELSE -/
theorem rn_el8 (hS : gs_S K n) {e o : Nat} (he : e < n) (hK : K e = 9) (hO : gs_O K e o) : K o = 8 := by
  obtain ⟨o', h1, h2, _⟩ := hS.2 e he hK
  rw [gs_Ouq hO h1]; exact h2
theorem rn_eluq (hS : gs_S K n) {e e' o : Nat} (he : e < n) (hK : K e = 9) (hO : gs_O K e o) (he' : e' < n) (hK' : K e' = 9) (hO' : gs_O K e' o) : e = e' := by
  by_cases l : e < e'
  · obtain ⟨o', h1, _, h3⟩ := hS.2 e' he' hK'
    have := gs_Ouq hO' h1
    exact absurd (this ▸ hO) (h3 e l hK)
  · by_cases l' : e' < e
    · obtain ⟨o', h1, _, h3⟩ := hS.2 e he hK
      have := gs_Ouq hO h1
      exact absurd (this ▸ hO') (h3 e' l' hK')
    · omega
theorem rn_ife (H : rn_H n K A B C P) {c e : Nat} (hcn : c < n) (h : K p = 8) (hKc : K c = 11) (hOc : gs_O K c p) (he : e < n) (hKe : K e = 9) (hO : gs_O K e p) (s : rn_St) : rn_One n oc K A B C P Q p s (p + 1) s ∨ rn_One n oc K A B C P Q p s (e + 1) s := by
  obtain ⟨hn, hS, hd, hP, hF⟩ := H
  have hpc := hOc.1
  have hpn : p < n := by omega
  obtain ⟨a, ha, hA⟩ := rn_a (hF p hpn) (by rw [h]; decide) (by rw [h]; decide)
  have hPp := hP.1 p e he hKe hO
  have hec : e < c := by
    have := gs_elc hKc hOc hO
    by_cases z : e = c
    · rw [z, hKc] at hKe; exact absurd hKe gs_e119
    · omega
  have hf : ∀ k, p < k → k < e → K k = 9 → ∃ o, gs_O K k o ∧ o ≠ p := by
    intro k k1 k2 k3
    obtain ⟨o, h1, _, _⟩ := hS.2 k (by omega) k3
    refine ⟨o, h1, fun z => ?_⟩
    have := rn_eluq hS he hKe hO (by omega) k3 (z ▸ h1)
    omega
  obtain ⟨f, V, O, L⟩ := s
  by_cases z : V a ≤ 0
  · exact Or.inr ⟨by simp, fun _ => ⟨fun post H => ps_xif (by omega) ha hA hPp h (fun w => absurd z w) (fun _ => H), fun post H => py_ife hcn hn ha hA h hKc hOc hec hKe hO hf (fun w => absurd z w) (fun _ => H)⟩⟩
  · exact Or.inl ⟨by simp, fun _ => ⟨fun post H => ps_xif (by omega) ha hA hPp h (fun _ => H) (fun w => absurd w z), fun post H => py_ife hcn hn ha hA h hKc hOc hec hKe hO hf (fun _ => H) (fun w => absurd w z)⟩⟩
/-- the partner of an opening without an ELSE -/
theorem rn_pno (hP : gs_P K n P) {c : Nat} (hcn : c < n) (hKc : K c = 11) (hOc : gs_O K c p) (hne : ∀ e, e < n → K e = 9 → ¬ gs_O K e p) : P p = nI c := by
  obtain ⟨s, hs, e1, e2⟩ := hP.2 p c hcn hKc hOc
  rcases hs with ⟨h, _⟩ | ⟨h1, h2, h3⟩
  · rw [← h]; exact e1
  · exact absurd h3 (hne s (by omega) h2)
theorem rn_ifn (H : rn_H n K A B C P) {c : Nat} (hcn : c < n) (h : K p = 8) (hKc : K c = 11) (hOc : gs_O K c p) (hne : ∀ e, e < n → K e = 9 → ¬ gs_O K e p) (s : rn_St) : rn_One n oc K A B C P Q p s (p + 1) s ∨ rn_One n oc K A B C P Q p s (c + 1) s := by
  obtain ⟨hn, hS, hd, hP, hF⟩ := H
  have hpc := hOc.1
  have hpn : p < n := by omega
  obtain ⟨a, ha, hA⟩ := rn_a (hF p hpn) (by rw [h]; decide) (by rw [h]; decide)
  have hPp := rn_pno hP hcn hKc hOc hne
  have hf : ∀ k, p < k → k < c → K k = 9 → ∃ o, gs_O K k o ∧ o ≠ p := by
    intro k k1 k2 k3
    obtain ⟨o, h1, _, _⟩ := hS.2 k (by omega) k3
    exact ⟨o, h1, fun z => hne k (by omega) k3 (z ▸ h1)⟩
  obtain ⟨f, V, O, L⟩ := s
  by_cases z : V a ≤ 0
  · exact Or.inr ⟨by simp, fun _ => ⟨fun post H => ps_xif (by omega) ha hA hPp h (fun w => absurd z w) (fun _ => H), fun post H => py_ifn hcn hn ha hA h hKc hOc hf (fun w => absurd z w) (fun _ => H)⟩⟩
  · exact Or.inl ⟨by simp, fun _ => ⟨fun post H => ps_xif (by omega) ha hA hPp h (fun _ => H) (fun w => absurd w z), fun post H => py_ifn hcn hn ha hA h hKc hOc hf (fun _ => H) (fun w => absurd w z)⟩⟩
theorem rn_else (H : rn_H n K A B C P) {o c : Nat} (hpn : p < n) (hcn : c < n) (h : K p = 9) (hO : gs_O K p o) (hKc : K c = 11) (hOc : gs_O K c o) (s : rn_St) : rn_One n oc K A B C P Q p s (c + 1) s := by
  obtain ⟨hn, hS, hd, hP, hF⟩ := H
  have hPp : P p = nI c := by
    obtain ⟨t, ht, e1, e2⟩ := hP.2 o c hcn hKc hOc
    have hpc := gs_elc hKc hOc hO
    have hpc' : p ≠ c := fun z => gs_e119 (by rw [← hKc, ← z]; exact h)
    rcases ht with ⟨_, h1⟩ | ⟨h1, h2, h3⟩
    · exact absurd hO (h1 p (by omega) h)
    · have := rn_eluq hS hpn h hO (by omega) h2 h3
      rw [this]; exact e1
  obtain ⟨f, V, O, L⟩ := s
  exact ⟨by simp, fun _ => ⟨fun post H => ps_xel (by omega) hPp h H, fun post H => py_el hcn hn hpn h hO hKc hOc H⟩⟩
theorem rn_lo (H : rn_H n K A B C P) {c : Nat} (hcn : c < n) (h : K p = 10) (hKc : K c = 11) (hOc : gs_O K c p) (s : rn_St) : (∃ L', rn_One n oc K A B C P Q p s (c + 1) (s.1, s.2.1, s.2.2.1, L') ∧ ∀ j, j < p → L' j = s.2.2.2 j) ∨ (∃ r, r < 5 ∧ rn_One n oc K A B C P Q p s (p + 1) (s.1, s.2.1, s.2.2.1, upd s.2.2.2 p (nI (r + 1)))) := by
  obtain ⟨hn, hS, hd, hP, hF⟩ := H
  have hpc := hOc.1
  have hpn : p < n := by omega
  obtain ⟨a, ha, hA⟩ := rn_a (hF p hpn) (by rw [h]; decide) (by rw [h]; decide)
  have hne : ∀ e, e < n → K e = 9 → ¬ gs_O K e p := by
    intro e he hK hO
    have := rn_el8 hS he hK hO
    rw [h] at this
    exact gs_e108 this
  have hPp := rn_pno hP hcn hKc hOc hne
  obtain ⟨f, V, O, L⟩ := s
  cases a with
  | zero => exact Or.inl ⟨upd L p (nI 0), ⟨by simp, fun _ => ⟨fun post H => ps_xlo (by omega) ha hA hPp h (fun w => absurd w (by omega)) (fun _ => H), fun post H => py_lo hcn hn ha hA h hKc hOc (fun w => absurd w (by omega)) (fun _ => H)⟩⟩, fun j hj => gs_un (by omega)⟩
  | succ r => exact Or.inr ⟨r, by omega, by simp, fun _ => ⟨fun post H => ps_xlo (by omega) ha hA hPp h (fun _ => H) (fun w => absurd w (by omega)), fun post H => py_lo hcn hn ha hA h hKc hOc (fun _ => H) (fun w => absurd w (by omega))⟩⟩
theorem rn_ei (H : rn_H n K A B C P) {o : Nat} (hpn : p < n) (h : K p = 11) (hO : gs_O K p o) (hK : K o = 8) (s : rn_St) : rn_One n oc K A B C P Q p s (p + 1) s := by
  obtain ⟨hn, hS, hd, hP, hF⟩ := H
  obtain ⟨t, ht, e1, e2⟩ := hP.2 o p hpn h hO
  have htp := gs_Tlt ht hO.1
  have hKt : ¬ K t = 10 := by
    rcases ht with ⟨h1, _⟩ | ⟨_, h2, _⟩
    · rw [h1, hK]; exact gs_e810
    · rw [h2]; exact gs_e910
  obtain ⟨f, V, O, L⟩ := s
  exact ⟨by simp, fun _ => ⟨fun post H => ps_xei (by omega) (by omega) e2 h hKt H, fun post H => py_ei hn hpn h hO hK H⟩⟩
theorem rn_eo (H : rn_H n K A B C P) {o r : Nat} (hpn : p < n) (h : K p = 11) (hO : gs_O K p o) (hK : K o = 10) (hr : r < 100) (s : rn_St) (hL : s.2.2.2 o = nI (r + 1)) : rn_One n oc K A B C P Q p s (if r = 0 then p + 1 else o + 1) (s.1, s.2.1, s.2.2.1, upd s.2.2.2 o (nI r)) := by
  obtain ⟨hn, hS, hd, hP, hF⟩ := H
  obtain ⟨t, ht, e1, e2⟩ := hP.2 o p hpn h hO
  have hop := hO.1
  have hto : t = o := by
    rcases ht with ⟨h1, _⟩ | ⟨h1, h2, h3⟩
    · exact h1
    · have := rn_el8 hS (by omega) h2 h3
      rw [hK] at this
      exact absurd this gs_e108
  rw [hto] at e2
  obtain ⟨f, V, O, L⟩ := s
  by_cases z : r = 0
  · rw [if_pos z]
    exact ⟨by simp, fun _ => ⟨fun post H => ps_xeo (by omega) (by omega) hr e2 h hK hL (fun w => absurd w (by omega)) (fun _ => H), fun post H => py_eo hn hpn h hO hK hr hL (fun w => absurd w (by omega)) (fun _ => H)⟩⟩
  · rw [if_neg z]
    exact ⟨by simp, fun _ => ⟨fun post H => ps_xeo (by omega) (by omega) hr e2 h hK hL (fun _ => H) (fun w => absurd w z), fun post H => py_eo hn hpn h hO hK hr hL (fun _ => H) (fun w => absurd w z)⟩⟩
end
