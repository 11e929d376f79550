section
/-- the depth ahead of place i: the openings less the ENDs before it -/
def gs_d (K : Nat → Int32) : Nat → Int
  | 0 => 0
  | i + 1 => gs_d K i + (if K i = 8 ∨ K i = 10 then 1 else if K i = 11 then -1 else 0)
theorem gs_0 (K : Nat → Int32) : gs_d K 0 = 0 := rfl
theorem gs_up {K : Nat → Int32} {i : Nat} (h : K i = 8 ∨ K i = 10) : gs_d K (i + 1) = gs_d K i + 1 := by
  simp only [gs_d, if_pos h]
theorem gs_n8 : ¬ (11 : Int32) = 8 := by decide
theorem gs_n10 : ¬ (11 : Int32) = 10 := by decide
theorem gs_dn {K : Nat → Int32} {i : Nat} (h : K i = 11) : gs_d K (i + 1) = gs_d K i - 1 := by
  have h' : ¬ (K i = 8 ∨ K i = 10) := by
    rw [h]; intro z; cases z with
    | inl z => exact gs_n8 z
    | inr z => exact gs_n10 z
  simp only [gs_d, if_neg h', if_pos h]; omega
theorem gs_eq {K : Nat → Int32} {i : Nat} (h : ¬ (K i = 8 ∨ K i = 10)) (h' : ¬ K i = 11) : gs_d K (i + 1) = gs_d K i := by
  simp only [gs_d, if_neg h, if_neg h']; omega
theorem gs_lip (K : Nat → Int32) (i : Nat) : gs_d K (i + 1) ≤ gs_d K i + 1 ∧ gs_d K i - 1 ≤ gs_d K (i + 1) := by
  by_cases h : K i = 8 ∨ K i = 10
  · rw [gs_up h]; omega
  · by_cases h' : K i = 11
    · rw [gs_dn h']; omega
    · rw [gs_eq h h']; omega
theorem gs_opK {K : Nat → Int32} {i : Nat} (h : gs_d K i < gs_d K (i + 1)) : K i = 8 ∨ K i = 10 := by
  by_cases h1 : K i = 8 ∨ K i = 10
  · exact h1
  · exfalso
    by_cases h' : K i = 11
    · rw [gs_dn h'] at h; omega
    · rw [gs_eq h1 h'] at h; omega
theorem gs_clK {K : Nat → Int32} {i : Nat} (h : gs_d K (i + 1) < gs_d K i) : K i = 11 := by
  by_cases h' : K i = 11
  · exact h'
  · exfalso
    by_cases h1 : K i = 8 ∨ K i = 10
    · rw [gs_up h1] at h; omega
    · rw [gs_eq h1 h'] at h; omega
/-- o is what is innermost open ahead of place i -/
def gs_O (K : Nat → Int32) (i o : Nat) : Prop := o < i ∧ gs_d K o = gs_d K i - 1 ∧ ∀ j, o < j → j ≤ i → gs_d K i ≤ gs_d K j
theorem gs_Ouq {K : Nat → Int32} {i o o' : Nat} (h : gs_O K i o) (h' : gs_O K i o') : o = o' := by
  obtain ⟨a, b, c⟩ := h
  obtain ⟨a', b', c'⟩ := h'
  by_cases l : o < o'
  · have := c o' l (by omega); omega
  · by_cases l' : o' < o
    · have := c' o l' (by omega); omega
    · omega
theorem gs_OK {K : Nat → Int32} {i o : Nat} (h : gs_O K i o) : K o = 8 ∨ K o = 10 := by
  obtain ⟨a, b, c⟩ := h
  exact gs_opK (by have := c (o + 1) (by omega) (by omega); omega)
theorem gs_Oex1 {K : Nat → Int32} {i : Nat} (h : 1 ≤ gs_d K i) : ∀ m, m ≤ i → (∀ j, m ≤ j → j ≤ i → gs_d K i ≤ gs_d K j) → ∃ o, gs_O K i o := by
  intro m
  induction m with
  | zero => intro _ hj; have := hj 0 (by omega) (by omega); rw [gs_0] at this; omega
  | succ m ih =>
    intro hm hj
    by_cases z : gs_d K i ≤ gs_d K m
    · refine ih (by omega) (fun j h1 h2 => ?_)
      by_cases e : j = m
      · rw [e]; exact z
      · exact hj j (by omega) h2
    · refine ⟨m, by omega, ?_, fun j h1 h2 => hj j (by omega) h2⟩
      have h1 := hj (m + 1) (by omega) (by omega)
      have h2 := gs_lip K m
      omega
theorem gs_Oex {K : Nat → Int32} {i : Nat} (h : 1 ≤ gs_d K i) : ∃ o, gs_O K i o :=
  gs_Oex1 h i (by omega) (fun j h1 h2 => by have : j = i := by omega
                                            rw [this]; omega)
theorem gs_Oend {K : Nat → Int32} {c o : Nat} (hK : K c = 11) (h : gs_O K c o) : gs_d K (c + 1) = gs_d K o := by
  rw [gs_dn hK, h.2.1]
theorem gs_Cex1 {K : Nat → Int32} {n i : Nat} (hK : K i = 8 ∨ K i = 10) : ∀ t, i + 1 + t ≤ n → (∃ c, i < c ∧ c < n ∧ K c = 11 ∧ gs_O K c i) ∨ (∀ j, i < j → j ≤ i + 1 + t → gs_d K i < gs_d K j) := by
  intro t
  induction t with
  | zero =>
    intro _
    refine Or.inr (fun j h1 h2 => ?_)
    have : j = i + 1 := by omega
    rw [this, gs_up hK]; omega
  | succ t ih =>
    intro ht
    rcases ih (by omega) with h | h
    · exact Or.inl h
    · by_cases z : gs_d K i < gs_d K (i + 1 + t + 1)
      · refine Or.inr (fun j h1 h2 => ?_)
        by_cases e : j = i + 1 + t + 1
        · rw [e]; exact z
        · exact h j h1 (by omega)
      · have h1 := h (i + 1 + t) (by omega) (by omega)
        have h2 := gs_lip K (i + 1 + t)
        refine Or.inl ⟨i + 1 + t, by omega, by omega, gs_clK (by omega), by omega, by omega, fun j h3 h4 => ?_⟩
        have := h j h3 h4
        omega
theorem gs_Cex {K : Nat → Int32} {n i : Nat} (hi : i < n) (hK : K i = 8 ∨ K i = 10) (hn : gs_d K n ≤ gs_d K i) : ∃ c, i < c ∧ c < n ∧ K c = 11 ∧ gs_O K c i := by
  rcases gs_Cex1 (n := n) hK (n - i - 1) (by omega) with h | h
  · exact h
  · have := h n hi (by omega); omega
/-- o is open ahead of p -/
def gs_Op (K : Nat → Int32) (p o : Nat) : Prop := o < p ∧ ∀ j, o < j → j ≤ p → gs_d K o < gs_d K j
theorem gs_Op_of {K : Nat → Int32} {p o : Nat} (h : gs_O K p o) : gs_Op K p o :=
  ⟨h.1, fun j h1 h2 => by have := h.2.2 j h1 h2; have := h.2.1; omega⟩
/-- no END of o stands ahead of p while o is open -/
theorem gs_Opc {K : Nat → Int32} {p o c : Nat} (h : gs_Op K p o) (hc : c < p) (hK : K c = 11) (ho : gs_O K c o) : False := by
  have h1 := h.2 (c + 1) (by have := ho.1; omega) (by omega)
  have h2 := gs_Oend hK ho
  omega
/-- an ELSE of o stands ahead of o's END -/
theorem gs_elc {K : Nat → Int32} {e o c : Nat} (hK : K c = 11) (ho : gs_O K c o) (he : gs_O K e o) : e ≤ c := by
  by_cases z : e ≤ c
  · exact z
  · exfalso
    have h1 := he.2.2 (c + 1) (by have := ho.1; omega) (by omega)
    have h2 := gs_Oend hK ho
    have h3 := he.2.1
    omega
/-- sound so far: up to p -/
def gs_S (K : Nat → Int32) (p : Nat) : Prop := (∀ j, j ≤ p → 0 ≤ gs_d K j ∧ gs_d K j ≤ 3) ∧ (∀ e, e < p → K e = 9 → ∃ o, gs_O K e o ∧ K o = 8 ∧ ∀ e', e' < e → K e' = 9 → ¬ gs_O K e' o)
theorem gs_Sm {K : Nat → Int32} {p q : Nat} (h : gs_S K q) (hp : p ≤ q) : gs_S K p :=
  ⟨fun j hj => h.1 j (by omega), fun e he hK => h.2 e (by omega) hK⟩
theorem gs_S0 (K : Nat → Int32) : gs_S K 0 :=
  ⟨fun j hj => by have : j = 0 := by omega
                  rw [this, gs_0]; omega, fun e he => by omega⟩
/-- s stands for o at p -/
def gs_T (K : Nat → Int32) (p o s : Nat) : Prop := (s = o ∧ ∀ e, e < p → K e = 9 → ¬ gs_O K e o) ∨ (s < p ∧ K s = 9 ∧ gs_O K s o)
/-- what the table of partners holds at p -/
def gs_P (K : Nat → Int32) (p : Nat) (P : Nat → Int32) : Prop := (∀ o e, e < p → K e = 9 → gs_O K e o → P o = nI e) ∧ (∀ o c, c < p → K c = 11 → gs_O K c o → ∃ s, gs_T K c o s ∧ P s = nI c ∧ P c = nI s)
/-- what the stack holds at p -/
def gs_Q (K : Nat → Int32) (p : Nat) (Q : Nat → Int32) : Prop := ∀ o, gs_Op K p o → ∃ s, gs_T K p o s ∧ Q (gs_d K o).toNat = nI s
theorem gs_us {f : Nat → Int32} {k : Nat} {x : Int32} : upd f k x k = x := by simp [upd]
theorem gs_un {f : Nat → Int32} {k j : Nat} {x : Int32} (h : j ≠ k) : upd f k x j = f j := by simp [upd, h]
theorem gs_Tlt {K : Nat → Int32} {p o s : Nat} (h : gs_T K p o s) (ho : o < p) : s < p := by
  rcases h with ⟨rfl, _⟩ | ⟨h, _⟩
  · exact ho
  · exact h
theorem gs_e98 : ¬ (9 : Int32) = 8 := by decide
theorem gs_e910 : ¬ (9 : Int32) = 10 := by decide
theorem gs_e911 : ¬ (9 : Int32) = 11 := by decide
theorem gs_e118 : ¬ (11 : Int32) = 8 := by decide
theorem gs_e1110 : ¬ (11 : Int32) = 10 := by decide
theorem gs_e119 : ¬ (11 : Int32) = 9 := by decide
theorem gs_e810 : ¬ (8 : Int32) = 10 := by decide
theorem gs_e108 : ¬ (10 : Int32) = 8 := by decide
theorem gs_nop9 {x : Int32} (h : x = 9) : ¬ (x = 8 ∨ x = 10) := by
  rw [h]; intro z; exact z.elim gs_e98 gs_e910
theorem gs_nop11 {x : Int32} (h : x = 11) : ¬ (x = 8 ∨ x = 10) := by
  rw [h]; intro z; exact z.elim gs_e118 gs_e1110
theorem gs_no9 {x : Int32} (h : x = 8 ∨ x = 10) : ¬ x = 9 := fun z => gs_nop9 z h
theorem gs_no11 {x : Int32} (h : x = 8 ∨ x = 10) : ¬ x = 11 := fun z => gs_nop11 z h
/-- a place that isn't an ELSE keeps who stands for whom -/
theorem gs_Tk {K : Nat → Int32} {p o s : Nat} (h9 : ¬ K p = 9) (h : gs_T K p o s) : gs_T K (p + 1) o s := by
  rcases h with ⟨h, z⟩ | ⟨h, z⟩
  · refine Or.inl ⟨h, fun e he hK => ?_⟩
    by_cases ee : e = p
    · rw [ee] at hK; exact absurd hK h9
    · exact z e (by omega) hK
  · exact Or.inr ⟨by omega, z⟩
theorem gs_Sk {K : Nat → Int32} {p : Nat} (h9 : ¬ K p = 9) (h : gs_S K p) (hd : 0 ≤ gs_d K (p + 1) ∧ gs_d K (p + 1) ≤ 3) : gs_S K (p + 1) := by
  refine ⟨fun j hj => ?_, fun e he hK => ?_⟩
  · by_cases ee : j = p + 1
    · rw [ee]; exact hd
    · exact h.1 j (by omega)
  · by_cases ee : e = p
    · rw [ee] at hK; exact absurd hK h9
    · exact h.2 e (by omega) hK
theorem gs_Pk {K : Nat → Int32} {p : Nat} {P : Nat → Int32} (h9 : ¬ K p = 9) (h11 : ¬ K p = 11) (h : gs_P K p P) : gs_P K (p + 1) P := by
  refine ⟨fun o e he hK ho => ?_, fun o c hc hK ho => ?_⟩
  · by_cases ee : e = p
    · rw [ee] at hK; exact absurd hK h9
    · exact h.1 o e (by omega) hK ho
  · by_cases ee : c = p
    · rw [ee] at hK; exact absurd hK h11
    · exact h.2 o c (by omega) hK ho
theorem gs_Opm {K : Nat → Int32} {p o : Nat} (h : gs_Op K (p + 1) o) (hp : o < p) : gs_Op K p o :=
  ⟨hp, fun j h1 h2 => h.2 j h1 (by omega)⟩
theorem gs_Opp {K : Nat → Int32} {p o : Nat} (h : gs_Op K (p + 1) o) (hd : gs_d K (p + 1) ≤ gs_d K p) : gs_Op K p o := by
  refine gs_Opm h ?_
  have h1 := h.1
  by_cases e : o = p
  · have := h.2 (p + 1) (by omega) (by omega)
    rw [e] at this; omega
  · omega
/-- a plain place -/
theorem gs_plain {K : Nat → Int32} {p : Nat} {P Q : Nat → Int32} (h8 : ¬ (K p = 8 ∨ K p = 10)) (h9 : ¬ K p = 9) (h11 : ¬ K p = 11) (hS : gs_S K p) (hP : gs_P K p P) (hQ : gs_Q K p Q) : gs_S K (p + 1) ∧ gs_P K (p + 1) P ∧ gs_Q K (p + 1) Q := by
  have hd := gs_eq h8 h11
  refine ⟨gs_Sk h9 hS (by rw [hd]; exact hS.1 p (by omega)), gs_Pk h9 h11 hP, fun o ho => ?_⟩
  obtain ⟨s, hs, e⟩ := hQ o (gs_Opp ho (by omega))
  exact ⟨s, gs_Tk h9 hs, e⟩
/-- an opening -/
theorem gs_open {K : Nat → Int32} {p : Nat} {P Q : Nat → Int32} (h8 : K p = 8 ∨ K p = 10) (hl : gs_d K p < 3) (hS : gs_S K p) (hP : gs_P K p P) (hQ : gs_Q K p Q) : gs_S K (p + 1) ∧ gs_P K (p + 1) P ∧ gs_Q K (p + 1) (upd Q (gs_d K p).toNat (nI p)) := by
  have hd := gs_up h8
  have h0 := hS.1 p (by omega)
  refine ⟨gs_Sk (gs_no9 h8) hS (by omega), gs_Pk (gs_no9 h8) (gs_no11 h8) hP, fun o ho => ?_⟩
  by_cases e : o = p
  · refine ⟨p, Or.inl ⟨e.symm, fun e' he' hK hO => ?_⟩, by rw [e, gs_us]⟩
    have := hO.1
    omega
  · have ho' := gs_Opm ho (by have := ho.1; omega)
    obtain ⟨s, hs, es⟩ := hQ o ho'
    refine ⟨s, gs_Tk (gs_no9 h8) hs, ?_⟩
    have h1 := ho'.2 p ho'.1 (by omega)
    have h2 := hS.1 o (by have := ho'.1; omega)
    rw [gs_un (by omega)]; exact es
/-- an ELSE -/
theorem gs_else {K : Nat → Int32} {p o : Nat} {P Q : Nat → Int32} (h9 : K p = 9) (hO : gs_O K p o) (hKo : K o = 8) (hn : ∀ e, e < p → K e = 9 → ¬ gs_O K e o) (hS : gs_S K p) (hP : gs_P K p P) (hQ : gs_Q K p Q) : gs_S K (p + 1) ∧ gs_P K (p + 1) (upd P o (nI p)) ∧ gs_Q K (p + 1) (upd Q (gs_d K o).toNat (nI p)) := by
  have h8 : ¬ (K p = 8 ∨ K p = 10) := gs_nop9 h9
  have h11 : ¬ K p = 11 := by rw [h9]; exact gs_e911
  have hd := gs_eq h8 h11
  have hop := gs_Op_of hO
  refine ⟨⟨fun j hj => ?_, fun e he hK => ?_⟩, ⟨fun o' e he hK ho => ?_, fun o' c hc hK ho => ?_⟩, fun o' ho => ?_⟩
  · by_cases ee : j = p + 1
    · rw [ee, hd]; exact hS.1 p (by omega)
    · exact hS.1 j (by omega)
  · by_cases ee : e = p
    · rw [ee]; exact ⟨o, hO, hKo, hn⟩
    · exact hS.2 e (by omega) hK
  · by_cases ee : e = p
    · rw [ee] at ho ⊢
      rw [gs_Ouq ho hO, gs_us]
    · have hne : o' ≠ o := fun z => hn e (by omega) hK (z ▸ ho)
      rw [gs_un hne]; exact hP.1 o' e (by omega) hK ho
  · by_cases ee : c = p
    · rw [ee] at hK; exact absurd hK h11
    · obtain ⟨s, hs, e1, e2⟩ := hP.2 o' c (by omega) hK ho
      have hc' : c ≠ o := fun z => gs_e118 (by rw [← hK, z]; exact hKo)
      have hs' : s ≠ o := by
        intro z
        rcases hs with ⟨h, _⟩ | ⟨_, h, _⟩
        · rw [← h, z] at ho; exact gs_Opc hop (by omega) hK ho
        · rw [z, hKo] at h; exact gs_e98 h.symm
      exact ⟨s, hs, by rw [gs_un hs']; exact e1, by rw [gs_un hc']; exact e2⟩
  · have ho' := gs_Opp ho (by omega)
    by_cases ee : o' = o
    · rw [ee]; exact ⟨p, Or.inr ⟨by omega, h9, hO⟩, gs_us⟩
    · obtain ⟨s, hs, es⟩ := hQ o' ho'
      have hl : gs_d K o' ≠ gs_d K o := by
        intro z
        by_cases l : o' < o
        · have := ho'.2 o l (by have := hO.1; omega); omega
        · have := hop.2 o' (by omega) (by have := ho'.1; omega); omega
      have h0 := (hS.1 o (by have := hO.1; omega)).1
      have h1 := (hS.1 o' (by have := ho'.1; omega)).1
      refine ⟨s, ?_, by rw [gs_un (by omega)]; exact es⟩
      rcases hs with ⟨h, z⟩ | ⟨h, z⟩
      · refine Or.inl ⟨h, fun e he hK hOe => ?_⟩
        by_cases e1 : e = p
        · rw [e1] at hOe; exact ee (gs_Ouq hOe hO)
        · exact z e (by omega) hK hOe
      · exact Or.inr ⟨by omega, z⟩
/-- an END -/
theorem gs_end {K : Nat → Int32} {p o s : Nat} {P Q : Nat → Int32} (h11 : K p = 11) (hO : gs_O K p o) (hs : gs_T K p o s) (hS : gs_S K p) (hP : gs_P K p P) (hQ : gs_Q K p Q) : gs_S K (p + 1) ∧ gs_P K (p + 1) (upd (upd P s (nI p)) p (nI s)) ∧ gs_Q K (p + 1) Q := by
  have h8 : ¬ (K p = 8 ∨ K p = 10) := gs_nop11 h11
  have h9 : ¬ K p = 9 := by rw [h11]; exact gs_e119
  have hd := gs_Oend h11 hO
  have hd' := gs_dn h11
  have hop := gs_Op_of hO
  have hsp := gs_Tlt hs hO.1
  have hKo := gs_OK hO
  have h0 := hS.1 o (by have := hO.1; omega)
  refine ⟨gs_Sk h9 hS (by rw [hd]; exact h0), ⟨fun o' e he hK ho => ?_, fun o' c hc hK ho => ?_⟩, fun o' ho => ?_⟩
  · have e1 : e < p := by
      by_cases ee : e = p
      · rw [ee] at hK; exact absurd hK h9
      · omega
    have n1 : o' ≠ p := by have := ho.1; omega
    have n2 : o' ≠ s := by
      intro z
      rcases hs with ⟨h, hn⟩ | ⟨_, h, _⟩
      · rw [z, h] at ho; exact hn e e1 hK ho
      · rw [← z] at h; exact gs_no9 (gs_OK ho) h
    rw [gs_un n1, gs_un n2]; exact hP.1 o' e e1 hK ho
  · by_cases ee : c = p
    · rw [ee] at ho ⊢
      have eo := gs_Ouq ho hO
      rw [eo]
      exact ⟨s, hs, by rw [gs_un (by omega), gs_us], gs_us⟩
    · have c1 : c < p := by omega
      obtain ⟨s', hs', e1, e2⟩ := hP.2 o' c c1 hK ho
      have hoc := ho.1
      have hsc := gs_Tlt hs' hoc
      have ncl : ∀ z : o' = o, False := fun z => gs_Opc hop c1 hK (z ▸ ho)
      have n1 : s' ≠ s := by
        intro z
        rcases hs with ⟨h, hn⟩ | ⟨_, h, hO2⟩
        · rcases hs' with ⟨h', _⟩ | ⟨_, h', _⟩
          · exact ncl (by rw [← h', z, h])
          · rw [z, h] at h'; exact gs_no9 hKo h'
        · rcases hs' with ⟨h', _⟩ | ⟨_, _, hO'⟩
          · rw [← z, h'] at h; exact gs_no9 (gs_OK ho) h
          · rw [z] at hO'; exact ncl (gs_Ouq hO' hO2)
      have n2 : c ≠ s := by
        intro z
        rcases hs with ⟨h, hn⟩ | ⟨_, h, hO2⟩
        · rw [z, h] at hK; exact gs_no11 hKo hK
        · rw [← z, hK] at h; exact gs_e119 h
      exact ⟨s', hs', by rw [gs_un (by omega), gs_un n1]; exact e1, by rw [gs_un ee, gs_un n2]; exact e2⟩
  · obtain ⟨s', hs', es⟩ := hQ o' (gs_Opp ho (by omega))
    exact ⟨s', gs_Tk h9 hs', es⟩
end
section
theorem ys_m1 (m : Nat) : nI (m + 1) + (-1) = nI m := by
  have h : nI (m + 1) - 1 = nI m := nI_pred m
  rw [Int32.sub_eq_add_neg] at h; exact h
theorem ys_m1' {m k : Nat} (h : k = m + 1) : nI k + (-1) = nI m := by rw [h]; exact ys_m1 m
theorem ys_p1' {m k : Nat} (h : k = m + 1) : nI m + 1 = nI k := by rw [h]; exact nI_1 m
section
variable {f : Int32} {K A B C V O L : Nat → Int32} {n : Nat}
theorem ys_opens1 {post : Int32 → Prop} {g : Int32} {p : Nat} (hp : p < 40) (h : K p = 8 ∨ K p = 10) (H : post 1) : wpY_opens post (g, f, K, A, B, C, V, O, L) (nI p) := by
  have hi : vp_in (nI p) 40 := vp_in_nI hp (by decide)
  have hc : (nI p).toNatClampNeg = p := nI_clamp (by omega)
  unfold wpY_opens
  dsimp only
  rw [hc]
  by_cases h8 : K p = 8
  · exact ⟨hi, br_t h8 H⟩
  · exact ⟨hi, br_f h8 ⟨hi, br_t (h.resolve_left h8) H⟩⟩
theorem ys_opens0 {post : Int32 → Prop} {g : Int32} {p : Nat} (hp : p < 40) (h : ¬ (K p = 8 ∨ K p = 10)) (H : post 0) : wpY_opens post (g, f, K, A, B, C, V, O, L) (nI p) := by
  have hi : vp_in (nI p) 40 := vp_in_nI hp (by decide)
  have hc : (nI p).toNatClampNeg = p := nI_clamp (by omega)
  unfold wpY_opens
  dsimp only
  rw [hc]
  exact ⟨hi, br_f (fun z => h (Or.inl z)) ⟨hi, br_f (fun z => h (Or.inr z)) H⟩⟩
theorem ys_1n0 : ¬ (1 : Int32) = 0 := by decide
/-- endOf: the loop -/
theorem ys_endL {i c : Nat} (hcn : c < n) (hn : n ≤ 40) (hK : K c = 11) (hO : gs_O K c i) (post : Int32 → Prop) (hp : post (nI c)) : ∀ t k, k + t = c → i ≤ k → wY_endOf_4 post (nI n) f K A B C V O L (t + 1) (nI (gs_d K k - gs_d K i).toNat) (nI k) := by
  intro t
  induction t with
  | zero =>
    intro k hk hi
    have e : k = c := by omega
    subst e
    have h1 : ¬ nI n ≤ nI k := nI_ge hcn (by omega)
    have hc : (nI k).toNatClampNeg = k := nI_clamp (by omega)
    have hin : vp_in (nI k) 40 := vp_in_nI (by omega) (by decide)
    have h2 : (gs_d K k - gs_d K i).toNat = 0 + 1 := by have := hO.2.1; omega
    unfold wY_endOf_4
    refine br_f h1 (ys_opens0 (by omega) (gs_nop11 hK) (br_t rfl ?_))
    unfold wY_endOf_23
    rw [hc]
    refine ⟨hin, br_t hK (nm_r (ys_m1' h2) ?_)⟩
    unfold wY_endOf_37
    exact br_t nI_0 hp
  | succ t ih =>
    intro k hk hi
    have h1 : ¬ nI n ≤ nI k := nI_ge (by omega) (by omega)
    have hc : (nI k).toNatClampNeg = k := nI_clamp (by omega)
    have hin : vp_in (nI k) 40 := vp_in_nI (by omega) (by decide)
    have h3 : gs_d K i < gs_d K (k + 1) := by have := hO.2.1; have := hO.2.2 (k + 1) (by omega) (by omega); omega
    have h4 : gs_d K i ≤ gs_d K k := by
      by_cases e : k = i
      · rw [e]; omega
      · have := hO.2.1; have := hO.2.2 k (by omega) (by omega); omega
    have hb : gs_d K (k + 1) ≤ gs_d K i + 41 ∨ True := Or.inr trivial
    have key : ∀ m : Nat, m = (gs_d K (k + 1) - gs_d K i).toNat → m < 100 → wY_endOf_37 post (wY_endOf_4 post (nI n) f K A B C V O L (t + 1)) (nI m) (nI k) (nI n) f K A B C V O L := by
      intro m hm hm2
      unfold wY_endOf_37
      refine br_f (nI_ne0 (by omega) (by omega)) (nm_r (nI_1 k) ?_)
      rw [hm]
      exact ih (k + 1) (by omega) (by omega)
    have hub : ∀ j : Nat, gs_d K j ≤ j := by
      intro j
      induction j with
      | zero => rw [gs_0]; omega
      | succ j ihj => have := (gs_lip K j).1; omega
    have hlb : ∀ j : Nat, - (j : Int) ≤ gs_d K j := by
      intro j
      induction j with
      | zero => rw [gs_0]; omega
      | succ j ihj => have := (gs_lip K j).2; omega
    have b1 := hub (k + 1)
    have b2 := hlb i
    unfold wY_endOf_4
    refine br_f h1 ?_
    by_cases hop : K k = 8 ∨ K k = 10
    · have hd := gs_up hop
      refine ys_opens1 (by omega) hop (br_f ys_1n0 (nm_r (ys_p1' (k := (gs_d K (k + 1) - gs_d K i).toNat) (by omega)) ?_))
      unfold wY_endOf_23
      rw [hc]
      exact ⟨hin, br_f (gs_no11 hop) (key _ rfl (by omega))⟩
    · refine ys_opens0 (by omega) hop (br_t rfl ?_)
      unfold wY_endOf_23
      rw [hc]
      by_cases h11 : K k = 11
      · have hd := gs_dn h11
        exact ⟨hin, br_t h11 (nm_r (ys_m1' (m := (gs_d K (k + 1) - gs_d K i).toNat) (by omega)) (key _ rfl (by omega)))⟩
      · have hd := gs_eq hop h11
        exact ⟨hin, br_f h11 (key _ (by rw [hd]) (by omega))⟩
theorem ys_end {i c : Nat} (hcn : c < n) (hn : n ≤ 40) (hK : K c = 11) (hO : gs_O K c i) (post : Int32 → Prop) (hp : post (nI c)) : wpY_endOf post (nI n, f, K, A, B, C, V, O, L) (nI i) := by
  unfold wpY_endOf
  dsimp only
  have hoi := hO.1
  have h := ys_endL (f := f) (A := A) (B := B) (C := C) (V := V) (O := O) (L := L) hcn hn hK hO post hp (c - i) i (by omega) (by omega)
  have e : (gs_d K i - gs_d K i).toNat = 0 := by omega
  rw [e, nI_0] at h
  exact ⟨_, h⟩
theorem ys_hub (K : Nat → Int32) : ∀ j : Nat, gs_d K j ≤ j := by
  intro j
  induction j with
  | zero => rw [gs_0]; omega
  | succ j ihj => have := (gs_lip K j).1; omega
theorem ys_hlb (K : Nat → Int32) : ∀ j : Nat, - (j : Int) ≤ gs_d K j := by
  intro j
  induction j with
  | zero => rw [gs_0]; omega
  | succ j ihj => have := (gs_lip K j).2; omega
/-- openerOf: one place -/
theorem ys_opn1 {g : Int32} {i k : Nat} (hi : i ≤ 40) (hk : k < i) (h4 : gs_d K i ≤ gs_d K (k + 1)) (post : Int32 → Prop) (t : Nat) (key : ∀ m : Nat, m = (1 + gs_d K k - gs_d K i).toNat → m < 100 → wY_openerOf_35 post (wY_openerOf_6 post g f K A B C V O L t) (nI m) (nI k) g f K A B C V O L) : wY_openerOf_6 post g f K A B C V O L (t + 1) (nI (1 + gs_d K (k + 1) - gs_d K i).toNat) (nI k) := by
  have h1 : ¬ nI k < 0 := nI_pos (by omega)
  have hc : (nI k).toNatClampNeg = k := nI_clamp (by omega)
  have hin : vp_in (nI k) 40 := vp_in_nI (by omega) (by decide)
  have b1 := ys_hub K (k + 1)
  have b2 := ys_hlb K i
  have b3 := ys_hub K k
  have hl := gs_lip K k
  unfold wY_openerOf_6
  refine br_f h1 ⟨hin, ?_⟩
  rw [hc]
  by_cases h11 : K k = 11
  · have hd := gs_dn h11
    refine br_t h11 (nm_r (ys_p1' (k := (1 + gs_d K k - gs_d K i).toNat) (by omega)) ?_)
    unfold wY_openerOf_24
    exact ys_opens0 (by omega) (gs_nop11 h11) (br_t rfl (key _ rfl (by omega)))
  · refine br_f h11 ?_
    unfold wY_openerOf_24
    by_cases hop : K k = 8 ∨ K k = 10
    · have hd := gs_up hop
      exact ys_opens1 (by omega) hop (br_f ys_1n0 (nm_r (ys_m1' (m := (1 + gs_d K k - gs_d K i).toNat) (by omega)) (key _ rfl (by omega))))
    · have hd := gs_eq hop h11
      exact ys_opens0 (by omega) hop (br_t rfl (key _ (by rw [hd]) (by omega)))
theorem ys_opnL {g : Int32} {i o : Nat} (hi : i ≤ 40) (hO : gs_O K i o) (post : Int32 → Prop) (hp : post (nI o)) : ∀ t k, o + t = k → k < i → wY_openerOf_6 post g f K A B C V O L (t + 1) (nI (1 + gs_d K (k + 1) - gs_d K i).toNat) (nI k) := by
  intro t
  induction t with
  | zero =>
    intro k hk hki
    have e : k = o := by omega
    subst e
    refine ys_opn1 hi hki (hO.2.2 (k + 1) (by omega) (by omega)) post 0 (fun m hm hm2 => ?_)
    have h2 : m = 0 := by have := hO.2.1; omega
    unfold wY_openerOf_35
    rw [h2]
    exact br_t nI_0 hp
  | succ t ih =>
    intro k hk hki
    have h5 := hO.2.2 k (by omega) (by omega)
    refine ys_opn1 hi hki (hO.2.2 (k + 1) (by omega) (by omega)) post (t + 1) (fun m hm hm2 => ?_)
    unfold wY_openerOf_35
    refine br_f (nI_ne0 (by omega) (by omega)) (nm_r (ys_m1' (m := o + t) (by omega)) ?_)
    have h := ih (o + t) rfl (by omega)
    have e : o + t + 1 = k := by omega
    rw [e, ← hm] at h
    exact h
theorem ys_opn {g : Int32} {i o : Nat} (hi : i ≤ 40) (hO : gs_O K i o) (post : Int32 → Prop) (hp : post (nI o)) : wpY_openerOf post (g, f, K, A, B, C, V, O, L) (nI i) := by
  unfold wpY_openerOf
  dsimp only
  have hoi := hO.1
  have h := ys_opnL (g := g) (f := f) (A := A) (B := B) (C := C) (V := V) (O := O) (L := L) hi hO post hp (i - 1 - o) (i - 1) (by omega) (by omega)
  have e0 : i - 1 + 1 = i := by omega
  rw [e0] at h
  have e : (1 + gs_d K i - gs_d K i).toNat = 1 := by omega
  rw [e] at h
  have e1 : nI i - 1 = nI (i - 1) := by
    have := nI_pred (i - 1)
    rw [e0] at this; exact this
  exact nm_r e1 ⟨_, h⟩
theorem ys_nopL {g : Int32} {i : Nat} (hi : i ≤ 40) (hO : ∀ j, j ≤ i → gs_d K i ≤ gs_d K j) (post : Int32 → Prop) (hp : post (-1)) : ∀ k, k < i → wY_openerOf_6 post g f K A B C V O L (k + 2) (nI (1 + gs_d K (k + 1) - gs_d K i).toNat) (nI k) := by
  intro k
  induction k with
  | zero =>
    intro hki
    refine ys_opn1 hi hki (hO _ (by omega)) post 1 (fun m hm hm2 => ?_)
    have h5 := hO 0 (by omega)
    unfold wY_openerOf_35
    refine br_f (nI_ne0 (by omega) (by omega)) (nm_e ?_)
    unfold wY_openerOf_6
    exact br_t (by decide) hp
  | succ k ih =>
    intro hki
    refine ys_opn1 hi hki (hO _ (by omega)) post (k + 2) (fun m hm hm2 => ?_)
    have h5 := hO (k + 1) (by omega)
    unfold wY_openerOf_35
    refine br_f (nI_ne0 (by omega) (by omega)) (nm_r (ys_m1 k) ?_)
    rw [hm]
    exact ih (by omega)
theorem ys_nop {g : Int32} {i : Nat} (hi : i ≤ 40) (hO : ∀ j, j ≤ i → gs_d K i ≤ gs_d K j) (post : Int32 → Prop) (hp : post (-1)) : wpY_openerOf post (g, f, K, A, B, C, V, O, L) (nI i) := by
  unfold wpY_openerOf
  dsimp only
  cases i with
  | zero =>
    refine nm_e ⟨1, ?_⟩
    unfold wY_openerOf_6
    exact br_t (by decide) hp
  | succ i =>
    have h := ys_nopL (g := g) (f := f) (A := A) (B := B) (C := C) (V := V) (O := O) (L := L) hi hO post hp i (by omega)
    have e : (1 + gs_d K (i + 1) - gs_d K (i + 1)).toNat = 1 := by omega
    rw [e] at h
    exact nm_r (nI_pred i) ⟨_, h⟩
/-- elseOf: an ELSE of i stands at e -/
theorem ys_elsL {i c e : Nat} (hc : c ≤ 40) (hie : e < c) (hK : K e = 9) (hO : gs_O K e i) (hf : ∀ k, i < k → k < e → K k = 9 → ∃ o, gs_O K k o ∧ o ≠ i) (post : Int32 → Prop) (hp : post (nI e)) : ∀ t k, k + t = e → i < k → wY_elseOf_10 post (nI i) (nI c) (nI n) f K A B C V O L (t + 1) (nI k) := by
  intro t
  induction t with
  | zero =>
    intro k hk hik
    have e0 : k = e := by omega
    subst e0
    have hcl : (nI k).toNatClampNeg = k := nI_clamp (by omega)
    unfold wY_elseOf_10
    rw [hcl]
    exact br_f (nI_ge (by omega) (by omega)) ⟨vp_in_nI (by omega) (by decide), br_t hK (ys_opn (by omega) hO _ (br_t rfl hp))⟩
  | succ t ih =>
    intro k hk hik
    have hcl : (nI k).toNatClampNeg = k := nI_clamp (by omega)
    unfold wY_elseOf_10
    rw [hcl]
    refine br_f (nI_ge (by omega) (by omega)) ⟨vp_in_nI (by omega) (by decide), ?_⟩
    by_cases h9 : K k = 9
    · obtain ⟨o, ho, hne⟩ := hf k hik (by omega) h9
      have := ho.1
      exact br_t h9 (ys_opn (by omega) ho _ (br_f (fun z => hne ((nI_eq (by omega) (by omega)).mp z)) (nm_r (nI_1 k) (ih (k + 1) (by omega) (by omega)))))
    · exact br_f h9 (nm_r (nI_1 k) (ih (k + 1) (by omega) (by omega)))
theorem ys_nelL {i c : Nat} (hc : c ≤ 40) (hf : ∀ k, i < k → k < c → K k = 9 → ∃ o, gs_O K k o ∧ o ≠ i) (post : Int32 → Prop) (hp : post (-1)) : ∀ t k, k + t = c → i < k → wY_elseOf_10 post (nI i) (nI c) (nI n) f K A B C V O L (t + 1) (nI k) := by
  intro t
  induction t with
  | zero =>
    intro k hk hik
    have e0 : k = c := by omega
    subst e0
    unfold wY_elseOf_10
    exact br_t (nI_le (by omega) (by omega)) hp
  | succ t ih =>
    intro k hk hik
    have hcl : (nI k).toNatClampNeg = k := nI_clamp (by omega)
    unfold wY_elseOf_10
    rw [hcl]
    refine br_f (nI_ge (by omega) (by omega)) ⟨vp_in_nI (by omega) (by decide), ?_⟩
    by_cases h9 : K k = 9
    · obtain ⟨o, ho, hne⟩ := hf k hik (by omega) h9
      have := ho.1
      exact br_t h9 (ys_opn (by omega) ho _ (br_f (fun z => hne ((nI_eq (by omega) (by omega)).mp z)) (nm_r (nI_1 k) (ih (k + 1) (by omega) (by omega)))))
    · exact br_f h9 (nm_r (nI_1 k) (ih (k + 1) (by omega) (by omega)))
theorem ys_els {i c e : Nat} (hcn : c < n) (hn : n ≤ 40) (hKc : K c = 11) (hOc : gs_O K c i) (hie : e < c) (hK : K e = 9) (hO : gs_O K e i) (hf : ∀ k, i < k → k < e → K k = 9 → ∃ o, gs_O K k o ∧ o ≠ i) (post : Int32 → Prop) (hp : post (nI e)) : wpY_elseOf post (nI n, f, K, A, B, C, V, O, L) (nI i) := by
  unfold wpY_elseOf
  dsimp only
  have := hO.1
  exact ys_end hcn hn hKc hOc _ (nm_r (nI_1 i) ⟨_, ys_elsL (by omega) hie hK hO hf post hp (e - i - 1) (i + 1) (by omega) (by omega)⟩)
theorem ys_nel {i c : Nat} (hcn : c < n) (hn : n ≤ 40) (hKc : K c = 11) (hOc : gs_O K c i) (hf : ∀ k, i < k → k < c → K k = 9 → ∃ o, gs_O K k o ∧ o ≠ i) (post : Int32 → Prop) (hp : post (-1)) : wpY_elseOf post (nI n, f, K, A, B, C, V, O, L) (nI i) := by
  unfold wpY_elseOf
  dsimp only
  have := hOc.1
  exact ys_end hcn hn hKc hOc _ (nm_r (nI_1 i) ⟨_, ys_nelL (by omega) hf post hp (c - i - 1) (i + 1) (by omega) (by omega)⟩)
/-- elseFits: its loop, an ELSE of o stands at e -/
theorem ys_ft0L {g : Int32} {p o e : Nat} (hp : p ≤ 40) (hie : e < p) (hK : K e = 9) (hO : gs_O K e o) (hf : ∀ k, o < k → k < e → K k = 9 → ∃ o', gs_O K k o' ∧ o' ≠ o) (post : Int32 → Prop) (H : post 0) : ∀ t k, k + t = e → o < k → wY_elseFits_27 post (nI p) (nI o) g f K A B C V O L (t + 1) (nI k) := by
  intro t
  induction t with
  | zero =>
    intro k hk hik
    have e0 : k = e := by omega
    subst e0
    have hcl : (nI k).toNatClampNeg = k := nI_clamp (by omega)
    unfold wY_elseFits_27
    rw [hcl]
    exact br_f (nI_ge (by omega) (by omega)) ⟨vp_in_nI (by omega) (by decide), br_t hK (ys_opn (by omega) hO _ (br_t rfl H))⟩
  | succ t ih =>
    intro k hk hik
    have hcl : (nI k).toNatClampNeg = k := nI_clamp (by omega)
    unfold wY_elseFits_27
    rw [hcl]
    refine br_f (nI_ge (by omega) (by omega)) ⟨vp_in_nI (by omega) (by decide), ?_⟩
    by_cases h9 : K k = 9
    · obtain ⟨o, ho, hne⟩ := hf k hik (by omega) h9
      have := ho.1
      exact br_t h9 (ys_opn (by omega) ho _ (br_f (fun z => hne ((nI_eq (by omega) (by omega)).mp z)) (nm_r (nI_1 k) (ih (k + 1) (by omega) (by omega)))))
    · exact br_f h9 (nm_r (nI_1 k) (ih (k + 1) (by omega) (by omega)))
theorem ys_ft1L {g : Int32} {p o : Nat} (hp : p ≤ 40) (hf : ∀ k, o < k → k < p → K k = 9 → ∃ o', gs_O K k o' ∧ o' ≠ o) (post : Int32 → Prop) (H : post 1) : ∀ t k, k + t = p → o < k → wY_elseFits_27 post (nI p) (nI o) g f K A B C V O L (t + 1) (nI k) := by
  intro t
  induction t with
  | zero =>
    intro k hk hik
    have e0 : k = p := by omega
    subst e0
    unfold wY_elseFits_27
    exact br_t (nI_le (by omega) (by omega)) H
  | succ t ih =>
    intro k hk hik
    have hcl : (nI k).toNatClampNeg = k := nI_clamp (by omega)
    unfold wY_elseFits_27
    rw [hcl]
    refine br_f (nI_ge (by omega) (by omega)) ⟨vp_in_nI (by omega) (by decide), ?_⟩
    by_cases h9 : K k = 9
    · obtain ⟨o, ho, hne⟩ := hf k hik (by omega) h9
      have := ho.1
      exact br_t h9 (ys_opn (by omega) ho _ (br_f (fun z => hne ((nI_eq (by omega) (by omega)).mp z)) (nm_r (nI_1 k) (ih (k + 1) (by omega) (by omega)))))
    · exact br_f h9 (nm_r (nI_1 k) (ih (k + 1) (by omega) (by omega)))
/-- elseFits at p, where all is sound ahead of p: it answers whether p's own clause holds -/
theorem ys_fit {g : Int32} {p : Nat} (hp : p < 40) (hS : gs_S K p) (post : Int32 → Prop) (H1 : ∀ o, gs_O K p o → K o = 8 → (∀ e', e' < p → K e' = 9 → ¬ gs_O K e' o) → post 1) (H0 : ¬ (∃ o, gs_O K p o ∧ K o = 8 ∧ ∀ e', e' < p → K e' = 9 → ¬ gs_O K e' o) → post 0) : wpY_elseFits post (g, f, K, A, B, C, V, O, L) (nI p) := by
  unfold wpY_elseFits
  dsimp only
  have hd0 := hS.1 p (by omega)
  by_cases h0 : gs_d K p = 0
  · refine ys_nop (by omega) (fun j hj => by have := hS.1 j hj; omega) _ (br_t (by decide) (H0 ?_))
    intro ⟨o, ho, _⟩
    have := hS.1 o (by have := ho.1; omega)
    have := ho.2.1
    omega
  · obtain ⟨o, ho⟩ := gs_Oex (K := K) (i := p) (by omega)
    have hop := ho.1
    have hcl : (nI o).toNatClampNeg = o := nI_clamp (by omega)
    refine ys_opn (by omega) ho _ (br_f (nI_pos (by omega)) ?_)
    rw [hcl]
    refine ⟨vp_in_nI (by omega) (by decide), ?_⟩
    by_cases hK : K o = 8
    · refine br_t hK (nm_r (nI_1 o) ?_)
      by_cases he : ∃ e, e < p ∧ K e = 9 ∧ gs_O K e o
      · obtain ⟨e, h1, h2, h3⟩ := he
        have hoe := h3.1
        obtain ⟨o', h4, _, h5⟩ := hS.2 e h1 h2
        have e1 := gs_Ouq h3 h4
        refine ⟨_, ys_ft0L (by omega) h1 h2 h3 (fun k k1 k2 k3 => ?_) post (H0 ?_) (e - o - 1) (o + 1) (by omega) (by omega)⟩
        · obtain ⟨o2, h6, _, _⟩ := hS.2 k (by omega) k3
          exact ⟨o2, h6, fun z => h5 k k2 k3 (by rw [← e1, ← z]; exact h6)⟩
        · intro ⟨o3, h7, _, h8⟩
          have e2 := gs_Ouq ho h7
          exact h8 e h1 h2 (e2 ▸ h3)
      · refine ⟨_, ys_ft1L (by omega) (fun k k1 k2 k3 => ?_) post (H1 o ho hK (fun e' a b c => he ⟨e', a, b, c⟩)) (p - o - 1) (o + 1) (by omega) (by omega)⟩
        obtain ⟨o2, h6, _, _⟩ := hS.2 k k2 k3
        exact ⟨o2, h6, fun z => he ⟨k, k2, k3, z ▸ h6⟩⟩
    · refine br_f hK (H0 ?_)
      intro ⟨o3, h7, h8, _⟩
      have e2 := gs_Ouq ho h7
      exact hK (e2 ▸ h8)
end
end
section
theorem sn_b0 : narrow .boolean (.int 0) = .int 0 := by rfl
theorem sn_b1 : narrow .boolean (.int 1) = .int 1 := by rfl
section
variable {f : Int32} {K A B C V O L : Nat → Int32} {n : Nat}
/-- the reference's sound: the loop -/
theorem sn_yL (hn : n ≤ 40) (post : Int32 → Prop) (H1 : gs_S K n → gs_d K n = 0 → post 1) (H0 : ¬ (gs_S K n ∧ gs_d K n = 0) → post 0) : ∀ t k, k + t = n → gs_S K k → wY_sound_4 post (nI n) f K A B C V O L (t + 1) (nI (gs_d K k).toNat) (nI k) := by
  intro t
  induction t with
  | zero =>
    intro k hk hS
    have e : k = n := by omega
    subst e
    have hd := hS.1 k (by omega)
    unfold wY_sound_4
    refine br_t (nI_le (by omega) (by omega)) ?_
    by_cases z : gs_d K k = 0
    · refine br_t ?_ (H1 hS z)
      rw [z]; exact nI_0
    · exact br_f (nI_ne0 (by omega) (by omega)) (H0 (fun w => z w.2))
  | succ t ih =>
    intro k hk hS
    have hd := hS.1 k (by omega)
    have h1 : ¬ nI n ≤ nI k := nI_ge (by omega) (by omega)
    have hc : (nI k).toNatClampNeg = k := nI_clamp (by omega)
    have hin : vp_in (nI k) 40 := vp_in_nI (by omega) (by decide)
    have nxt : gs_S K (k + 1) → ¬ K k = 9 → ∀ m : Nat, m = (gs_d K (k + 1)).toNat → wY_sound_37 post (wY_sound_4 post (nI n) f K A B C V O L (t + 1)) (nI m) (nI k) (nI n) f K A B C V O L := by
      intro hS' h9 m hm
      have hd' := hS'.1 (k + 1) (by omega)
      unfold wY_sound_37
      rw [hc]
      refine br_f (nI_pos (by omega)) (br_t (nI_le (b := 3) (by omega) (by decide)) ⟨hin, br_f h9 (nm_r (nI_1 k) ?_)⟩)
      rw [hm]
      exact ih (k + 1) (by omega) hS'
    unfold wY_sound_4
    refine br_f h1 ?_
    by_cases hop : K k = 8 ∨ K k = 10
    · have hd' := gs_up hop
      refine ys_opens1 (by omega) hop (br_f ys_1n0 (nm_r (ys_p1' (k := (gs_d K (k + 1)).toNat) (by omega)) ?_))
      unfold wY_sound_23
      rw [hc]
      refine ⟨hin, br_f (gs_no11 hop) ?_⟩
      by_cases l : gs_d K k < 3
      · exact nxt (gs_Sk (gs_no9 hop) hS (by omega)) (gs_no9 hop) _ rfl
      · unfold wY_sound_37
        refine br_f (nI_pos (by omega)) (br_f (nI_ge (a := 3) (by omega) (by omega)) (H0 (fun w => ?_)))
        have := w.1.1 (k + 1) (by omega)
        omega
    · refine ys_opens0 (by omega) hop (br_t rfl ?_)
      unfold wY_sound_23
      rw [hc]
      refine ⟨hin, ?_⟩
      by_cases h11 : K k = 11
      · have hd' := gs_dn h11
        have h9 : ¬ K k = 9 := by rw [h11]; exact gs_e119
        refine br_t h11 ?_
        by_cases z : gs_d K k = 0
        · have e : nI (gs_d K k).toNat + (-1) = -1 := by rw [z]; decide
          refine nm_r e ?_
          unfold wY_sound_37
          refine br_t (by decide) (H0 (fun w => ?_))
          have := w.1.1 (k + 1) (by omega)
          omega
        · exact nm_r (ys_m1' (m := (gs_d K (k + 1)).toNat) (by omega)) (nxt (gs_Sk h9 hS (by omega)) h9 _ rfl)
      · have hd' := gs_eq hop h11
        refine br_f h11 ?_
        by_cases h9 : K k = 9
        · unfold wY_sound_37
          rw [hc]
          refine br_f (nI_pos (by omega)) (br_t (nI_le (b := 3) (by omega) (by decide)) ⟨hin, br_t h9 (ys_fit (by omega) hS _ (fun o ho hKo hne => ?_) (fun z => ?_))⟩)
          · refine br_f ys_1n0 (nm_r (nI_1 k) ?_)
            rw [← hd']
            refine ih (k + 1) (by omega) ⟨fun j hj => ?_, fun e he hK => ?_⟩
            · by_cases ee : j = k + 1
              · rw [ee, hd']; exact hd
              · exact hS.1 j (by omega)
            · by_cases ee : e = k
              · rw [ee]; exact ⟨o, ho, hKo, hne⟩
              · exact hS.2 e (by omega) hK
          · exact br_t rfl (H0 (fun w => z (w.1.2 k (by omega) h9)))
        · exact nxt (gs_Sk h9 hS (by omega)) h9 _ (by rw [hd'])
theorem sn_y (hn : n ≤ 40) (post : Int32 → Prop) (H1 : gs_S K n → gs_d K n = 0 → post 1) (H0 : ¬ (gs_S K n ∧ gs_d K n = 0) → post 0) : wpY_sound post (nI n, f, K, A, B, C, V, O, L) := by
  unfold wpY_sound
  dsimp only
  have h := sn_yL (f := f) (A := A) (B := B) (C := C) (V := V) (O := O) (L := L) hn post H1 H0 n 0 (by omega) (gs_S0 K)
  exact ⟨_, h⟩
end
section
variable {f g : Int32} {K A B C V O P Q L : Nat → Int32}
theorem sn_open1 {post : Int32 → SX → Prop} {m : Nat} {q : Int32} (hm : m < 3) (H : post 1 (g, f, nI (m + 1), K, A, B, C, V, O, P, upd Q m q, L)) : wpX_open post (g, f, nI m, K, A, B, C, V, O, P, Q, L) q := by
  have hc : (nI m).toNatClampNeg = m := nI_clamp (by omega)
  unfold wpX_open
  dsimp only
  rw [hc]
  exact br_t (nI_lt (b := 3) hm (by decide)) ⟨vp_in_nI hm (by decide), nm_e (nm_r (nI_1 m) H)⟩
theorem sn_open0 {post : Int32 → SX → Prop} {m : Nat} {q : Int32} (hm : 3 ≤ m) (hm' : m < 100) (H : post 0 (g, f, nI m, K, A, B, C, V, O, P, Q, L)) : wpX_open post (g, f, nI m, K, A, B, C, V, O, P, Q, L) q := by
  unfold wpX_open
  dsimp only
  exact br_f (nI_nlt (b := 3) hm (by omega)) H
theorem sn_div00 {post : Int32 → SX → Prop} {q : Int32} (H : post 0 (g, f, nI 0, K, A, B, C, V, O, P, Q, L)) : wpX_divide post (g, f, nI 0, K, A, B, C, V, O, P, Q, L) q := by
  unfold wpX_divide
  dsimp only
  exact br_t nI_0 H
theorem sn_div1 {post : Int32 → SX → Prop} {m s : Nat} {q : Int32} (hm : m < 3) (hs : s < 40) (hQ : Q m = nI s) (hK : K s = 8) (H : post 1 (g, f, nI (m + 1), K, A, B, C, V, O, upd P s q, upd Q m q, L)) : wpX_divide post (g, f, nI (m + 1), K, A, B, C, V, O, P, Q, L) q := by
  have hc : (nI m).toNatClampNeg = m := nI_clamp (by omega)
  have hcs : (nI s).toNatClampNeg = s := nI_clamp (by omega)
  unfold wpX_divide
  dsimp only
  rw [nI_pred, hc]
  refine br_f (nI_ne0 (by omega) (by omega)) ⟨vp_in_nI hm (by decide), nm_r hQ ⟨vp_in_nI hs (by decide), ?_⟩⟩
  rw [hcs]
  exact br_t hK ⟨vp_in_nI hs (by decide), nm_e ⟨vp_in_nI hm (by decide), nm_e H⟩⟩
theorem sn_div0 {post : Int32 → SX → Prop} {m s : Nat} {q : Int32} (hm : m < 3) (hs : s < 40) (hQ : Q m = nI s) (hK : ¬ K s = 8) (H : post 0 (g, f, nI (m + 1), K, A, B, C, V, O, P, Q, L)) : wpX_divide post (g, f, nI (m + 1), K, A, B, C, V, O, P, Q, L) q := by
  have hc : (nI m).toNatClampNeg = m := nI_clamp (by omega)
  have hcs : (nI s).toNatClampNeg = s := nI_clamp (by omega)
  unfold wpX_divide
  dsimp only
  rw [nI_pred, hc]
  refine br_f (nI_ne0 (by omega) (by omega)) ⟨vp_in_nI hm (by decide), nm_r hQ ⟨vp_in_nI hs (by decide), ?_⟩⟩
  rw [hcs]
  exact br_f hK H
theorem sn_cl0 {post : Int32 → SX → Prop} {q : Int32} (H : post 0 (g, f, nI 0, K, A, B, C, V, O, P, Q, L)) : wpX_close post (g, f, nI 0, K, A, B, C, V, O, P, Q, L) q := by
  unfold wpX_close
  dsimp only
  exact br_t nI_0 H
theorem sn_cl1 {post : Int32 → SX → Prop} {m s p : Nat} (hm : m < 3) (hs : s < 40) (hp : p < 40) (hQ : Q m = nI s) (H : post 1 (g, f, nI m, K, A, B, C, V, O, upd (upd P s (nI p)) p (nI s), Q, L)) : wpX_close post (g, f, nI (m + 1), K, A, B, C, V, O, P, Q, L) (nI p) := by
  have hc : (nI m).toNatClampNeg = m := nI_clamp (by omega)
  have hcs : (nI s).toNatClampNeg = s := nI_clamp (by omega)
  have hcp : (nI p).toNatClampNeg = p := nI_clamp (by omega)
  unfold wpX_close
  dsimp only
  refine br_f (nI_ne0 (by omega) (by omega)) (nm_r (nI_pred m) ⟨vp_in_nI hm (by decide), ?_⟩)
  rw [hc]
  refine nm_r hQ ⟨vp_in_nI hs (by decide), ?_⟩
  rw [hcs, hcp]
  exact nm_e ⟨vp_in_nI hp (by decide), nm_e H⟩
end
section
variable {f : Int32} {K A B C V O L : Nat → Int32} {n : Nat}
/-- pair at a sound place -/
theorem sn_pair (hn : n ≤ 40) {k : Nat} (hk : k < n) (hS : gs_S K k) {P Q : Nat → Int32} (hP : gs_P K k P) (hQ : gs_Q K k Q) (post : Int32 → SX → Prop) (H1 : gs_S K (k + 1) → ∀ P' Q', gs_P K (k + 1) P' → gs_Q K (k + 1) Q' → post 1 (nI n, f, nI (gs_d K (k + 1)).toNat, K, A, B, C, V, O, P', Q', L)) (H0 : ¬ gs_S K (k + 1) → ∀ oc P' Q', post 0 (nI n, f, oc, K, A, B, C, V, O, P', Q', L)) : wpX_pair post (nI n, f, nI (gs_d K k).toNat, K, A, B, C, V, O, P, Q, L) (nI k) := by
  have hd := hS.1 k (by omega)
  have hc : (nI k).toNatClampNeg = k := nI_clamp (by omega)
  have hin : vp_in (nI k) 40 := vp_in_nI (by omega) (by decide)
  unfold wpX_pair
  dsimp only
  rw [hc]
  refine ⟨hin, nm_e ?_⟩
  have op : (K k = 8 ∨ K k = 10) → wX_pair_36 post (nI k) (nI n) f (nI (gs_d K k).toNat) K A B C V O P Q L := by
    intro hop
    unfold wX_pair_36
    by_cases l : gs_d K k < 3
    · have h := gs_open hop l hS hP hQ
      have hd' := gs_up hop
      have e : (gs_d K (k + 1)).toNat = (gs_d K k).toNat + 1 := by omega
      refine sn_open1 (by omega) ?_
      refine ⟨sn_b1, ?_⟩
      rw [← e]
      exact H1 h.1 _ _ h.2.1 h.2.2
    · refine sn_open0 (by omega) (by omega) ?_
      refine ⟨sn_b0, H0 (fun w => ?_) _ _ _⟩
      have := w.1 (k + 1) (by omega)
      have := gs_up hop
      omega
  by_cases h8 : K k = 8
  · exact br_f (by rw [h8]; decide) (br_f (by rw [h8]; decide) (br_t h8 (op (Or.inl h8))))
  · by_cases h10 : K k = 10
    · exact br_f (by rw [h10]; decide) (br_f (by rw [h10]; decide) (br_f h8 (br_f (by rw [h10]; decide) (br_t h10 (op (Or.inr h10))))))
    · have hno : ¬ (K k = 8 ∨ K k = 10) := fun z => z.elim h8 h10
      by_cases h9 : K k = 9
      · refine br_f (by rw [h9]; decide) (br_f (by rw [h9]; decide) (br_f h8 (br_t h9 ?_)))
        have hd' := gs_eq hno (by rw [h9]; exact gs_e911)
        by_cases z : gs_d K k = 0
        · rw [z]
          refine sn_div00 ?_
          refine ⟨sn_b0, H0 (fun w => ?_) _ _ _⟩
          obtain ⟨o, ho, _⟩ := w.2 k (by omega) h9
          have h1 := hS.1 o (by have := ho.1; omega)
          have h2 := ho.2.1
          omega
        · obtain ⟨o, ho⟩ := gs_Oex (K := K) (i := k) (by omega)
          have hok := ho.1
          have hod := ho.2.1
          have ho0 := hS.1 o (by omega)
          obtain ⟨s, hs, es⟩ := hQ o (gs_Op_of ho)
          have hsk := gs_Tlt hs hok
          have e : (gs_d K k).toNat = (gs_d K o).toNat + 1 := by omega
          by_cases hKs : K s = 8
          · have hso : s = o ∧ ∀ e, e < k → K e = 9 → ¬ gs_O K e o := by
              rcases hs with h | ⟨_, h, _⟩
              · exact h
              · rw [hKs] at h; exact absurd h.symm gs_e98
            obtain ⟨hso, hne⟩ := hso
            rw [hso] at hKs es
            have h := gs_else h9 ho hKs hne hS hP hQ
            rw [e]
            refine sn_div1 (s := o) (by omega) (by omega) es hKs ?_
            refine ⟨sn_b1, ?_⟩
            rw [← e, ← hd']
            exact H1 h.1 _ _ h.2.1 h.2.2
          · rw [e]
            refine sn_div0 (s := s) (by omega) (by omega) es hKs ?_
            refine ⟨sn_b0, H0 (fun w => ?_) _ _ _⟩
            obtain ⟨o', h1, h2, h3⟩ := w.2 k (by omega) h9
            have eo := gs_Ouq h1 ho
            rw [eo] at h2 h3
            rcases hs with ⟨h, _⟩ | ⟨h4, h5, h6⟩
            · rw [h] at hKs; exact hKs h2
            · exact h3 s h4 h5 h6
      · by_cases h11 : K k = 11
        · refine br_f (by rw [h11]; decide) (br_f (by rw [h11]; decide) (br_f h8 (br_f h9 (br_f h10 (br_t h11 ?_)))))
          have hd' := gs_dn h11
          by_cases z : gs_d K k = 0
          · rw [z]
            refine sn_cl0 ?_
            refine ⟨sn_b0, H0 (fun w => ?_) _ _ _⟩
            have := w.1 (k + 1) (by omega)
            omega
          · obtain ⟨o, ho⟩ := gs_Oex (K := K) (i := k) (by omega)
            have hok := ho.1
            have hod := ho.2.1
            have ho0 := hS.1 o (by omega)
            obtain ⟨s, hs, es⟩ := hQ o (gs_Op_of ho)
            have hsk := gs_Tlt hs hok
            have e : (gs_d K k).toNat = (gs_d K o).toNat + 1 := by omega
            have e' := gs_Oend h11 ho
            have h := gs_end h11 ho hs hS hP hQ
            rw [e]
            refine sn_cl1 (s := s) (by omega) (by omega) (by omega) es ?_
            refine ⟨sn_b1, ?_⟩
            rw [← e']
            exact H1 h.1 _ _ h.2.1 h.2.2
        · have h := gs_plain hno h9 h11 hS hP hQ
          have hd' := gs_eq hno h11
          have hp := H1 h.1 _ _ h.2.1 h.2.2
          rw [hd'] at hp
          exact br_c (fun _ => hp) (fun _ => br_c (fun _ => hp) (fun _ => br_f h8 (br_f h9 (br_f h10 (br_f h11 trivial)))))
/-- pairAll: the loop -/
theorem sn_xL (hn : n ≤ 40) (post : Int32 → SX → Prop) (H1 : gs_S K n → gs_d K n = 0 → ∀ oc P Q, gs_P K n P → post 1 (nI n, f, oc, K, A, B, C, V, O, P, Q, L)) (H0 : ¬ (gs_S K n ∧ gs_d K n = 0) → ∀ oc P Q, post 0 (nI n, f, oc, K, A, B, C, V, O, P, Q, L)) : ∀ t k, k + t = n → gs_S K k → ∀ P Q, gs_P K k P → gs_Q K k Q → wX_pairAll_7 post (t + 1) (nI k) (nI n) f (nI (gs_d K k).toNat) K A B C V O P Q L := by
  intro t
  induction t with
  | zero =>
    intro k hk hS P Q hP hQ
    have e : k = n := by omega
    subst e
    have hd := hS.1 k (by omega)
    unfold wX_pairAll_7
    refine br_t (nI_le (by omega) (by omega)) ?_
    by_cases z : gs_d K k = 0
    · exact br_t (by rw [z]; exact nI_0) (H1 hS z _ P Q hP)
    · exact br_f (nI_ne0 (by omega) (by omega)) (H0 (fun w => z w.2) _ _ _)
  | succ t ih =>
    intro k hk hS P Q hP hQ
    unfold wX_pairAll_7
    refine br_f (nI_ge (by omega) (by omega)) (sn_pair hn (by omega) hS hP hQ _ (fun hS' P' Q' hP' hQ' => ?_) (fun hS' oc P' Q' => ?_))
    · exact br_f ys_1n0 (nm_r (nI_1 k) (ih (k + 1) (by omega) hS' P' Q' hP' hQ'))
    · exact br_t rfl (H0 (fun w => hS' (gs_Sm w.1 (by omega))) _ _ _)
theorem sn_x (hn : n ≤ 40) (post : Int32 → SX → Prop) (H1 : gs_S K n → gs_d K n = 0 → ∀ oc P Q, gs_P K n P → post 1 (nI n, f, oc, K, A, B, C, V, O, P, Q, L)) (H0 : ¬ (gs_S K n ∧ gs_d K n = 0) → ∀ oc P Q, post 0 (nI n, f, oc, K, A, B, C, V, O, P, Q, L)) (oc : Int32) (P Q : Nat → Int32) : wpX_pairAll post (nI n, f, oc, K, A, B, C, V, O, P, Q, L) := by
  unfold wpX_pairAll
  dsimp only
  have h := sn_xL hn post H1 H0 n 0 (by omega) (gs_S0 K) P Q ⟨fun o e he => by omega, fun o c hc => by omega⟩ (fun o ho => by have := ho.1; omega)
  exact ⟨_, h⟩
end
end
section
section
variable {f g oc : Int32} {K A B C V O P Q L : Nat → Int32} {p : Nat}
theorem ps_cmb2 {post : Int32 → Prop} {k l r : Int32} (h : k = 2) (H : post (l + r)) : wpX_combine post k l r := by
  unfold wpX_combine; rw [h]; exact br_f (by decide) (br_f (by decide) (br_t rfl H))
theorem ps_cmb3 {post : Int32 → Prop} {k l r : Int32} (h : k = 3) (H : post (l - r)) : wpX_combine post k l r := by
  unfold wpX_combine; rw [h]; exact br_f (by decide) (br_f (by decide) (br_f (by decide) (br_t rfl H)))
theorem ps_cmb4 {post : Int32 → Prop} {k l r : Int32} (h : k = 4) (H : post (l * r)) : wpX_combine post k l r := by
  unfold wpX_combine; rw [h]; exact br_f (by decide) (br_f (by decide) (br_f (by decide) (br_f (by decide) (br_t rfl H))))
theorem ps_cmb5 {post : Int32 → Prop} {k l r : Int32} (h : k = 5) (H : post (l ^^^ r)) : wpX_combine post k l r := by
  unfold wpX_combine; rw [h]; exact br_f (by decide) (br_f (by decide) (br_f (by decide) (br_f (by decide) (br_f (by decide) (br_t rfl H)))))
theorem ps_cmb6a {post : Int32 → Prop} {k l r : Int32} (h : k = 6) (z : r ≤ l) (H : post 0) : wpX_combine post k l r := by
  unfold wpX_combine; rw [h]; exact br_f (by decide) (br_t (by decide) (br_t z H))
theorem ps_cmb6b {post : Int32 → Prop} {k l r : Int32} (h : k = 6) (z : ¬ r ≤ l) (H : post 1) : wpX_combine post k l r := by
  unfold wpX_combine; rw [h]; exact br_f (by decide) (br_t (by decide) (br_f z H))
/-- assign: SET -/
theorem ps_as0 {post : SX → Prop} {a : Nat} (hp : p < 40) (ha : a < 6) (hA : A p = nI a) (h : K p = 0) (H : post (g, f, oc, K, A, B, C, upd V a (B p), O, P, Q, L)) : wpX_assign post (g, f, oc, K, A, B, C, V, O, P, Q, L) (nI p) := by
  have hc : (nI p).toNatClampNeg = p := nI_clamp (by omega)
  have hi : vp_in (nI p) 40 := vp_in_nI hp (by decide)
  have hca : (nI a).toNatClampNeg = a := nI_clamp (by omega)
  unfold wpX_assign
  dsimp only
  rw [hc]
  refine ⟨hi, nm_r hA ⟨hi, nm_e ⟨hi, nm_r h (br_t rfl ⟨vp_in_nI ha (by decide), ?_⟩)⟩⟩⟩
  rw [hca]
  exact nm_e H
/-- assign: COPY -/
theorem ps_as1 {post : SX → Prop} {a b : Nat} (hp : p < 40) (ha : a < 6) (hA : A p = nI a) (hb : b < 6) (hB : B p = nI b) (h : K p = 1) (H : post (g, f, oc, K, A, B, C, upd V a (V b), O, P, Q, L)) : wpX_assign post (g, f, oc, K, A, B, C, V, O, P, Q, L) (nI p) := by
  have hc : (nI p).toNatClampNeg = p := nI_clamp (by omega)
  have hi : vp_in (nI p) 40 := vp_in_nI hp (by decide)
  have hca : (nI a).toNatClampNeg = a := nI_clamp (by omega)
  have hcb : (nI b).toNatClampNeg = b := nI_clamp (by omega)
  unfold wpX_assign
  dsimp only
  rw [hc]
  refine ⟨hi, nm_r hA ⟨hi, nm_r hB ⟨hi, nm_r h (br_f (by decide) (br_t rfl ⟨vp_in_nI hb (by decide), vp_in_nI ha (by decide), ?_⟩))⟩⟩⟩
  rw [hca, hcb]
  exact nm_e H
/-- assign: what combines -/
theorem ps_as2 {post : SX → Prop} {a b c : Nat} (hp : p < 40) (ha : a < 6) (hA : A p = nI a) (hb : b < 6) (hB : B p = nI b) (hcc : c < 6) (hC : C p = nI c) (h0 : ¬ K p = 0) (h1 : ¬ K p = 1) (w : Int32) (hw : ∀ post : Int32 → Prop, post w → wpX_combine post (K p) (V b) (V c)) (H : post (g, f, oc, K, A, B, C, upd V a w, O, P, Q, L)) : wpX_assign post (g, f, oc, K, A, B, C, V, O, P, Q, L) (nI p) := by
  have hc : (nI p).toNatClampNeg = p := nI_clamp (by omega)
  have hi : vp_in (nI p) 40 := vp_in_nI hp (by decide)
  have hca : (nI a).toNatClampNeg = a := nI_clamp (by omega)
  have hcb : (nI b).toNatClampNeg = b := nI_clamp (by omega)
  have hcd : (nI c).toNatClampNeg = c := nI_clamp (by omega)
  unfold wpX_assign
  dsimp only
  rw [hc, hC]
  refine ⟨hi, nm_r hA ⟨hi, nm_r hB ⟨hi, nm_e (br_f h0 (br_f h1 ⟨hi, vp_in_nI hb (by decide), hi, vp_in_nI hcc (by decide), ?_⟩))⟩⟩⟩
  rw [hca, hcb, hcd]
  exact hw _ ⟨vp_in_nI ha (by decide), nm_e H⟩
/-- pass: what assigns -/
theorem ps_xas {post : Int32 → SX → Prop} (hp : p < 40) (h : K p < 7) (H : wpX_assign (fun u => post (nI (p + 1)) u) (g, f, oc, K, A, B, C, V, O, P, Q, L) (nI p)) : wpX_pass post (g, f, oc, K, A, B, C, V, O, P, Q, L) (nI p) := by
  have hc : (nI p).toNatClampNeg = p := nI_clamp (by omega)
  have hi : vp_in (nI p) 40 := vp_in_nI hp (by decide)
  unfold wpX_pass
  dsimp only
  rw [hc, nI_1]
  exact ⟨hi, nm_e (br_t h H)⟩
theorem ps_xpr {post : Int32 → SX → Prop} {a q : Nat} (hp : p < 40) (ha : a < 6) (hA : A p = nI a) (hq : q < 100000) (h : K p = 7) (H : post (nI (p + 1)) (g, nI (q + 1), oc, K, A, B, C, V, (if 64 ≤ q then O else upd O q (V a)), P, Q, L)) : wpX_pass post (g, nI q, oc, K, A, B, C, V, O, P, Q, L) (nI p) := by
  have hc : (nI p).toNatClampNeg = p := nI_clamp (by omega)
  have hi : vp_in (nI p) 40 := vp_in_nI hp (by decide)
  have hca : (nI a).toNatClampNeg = a := nI_clamp (by omega)
  have hcq : (nI q).toNatClampNeg = q := nI_clamp (by omega)
  unfold wpX_pass
  dsimp only
  rw [hc, nI_1, hA, hca]
  refine ⟨hi, nm_r h (br_f (by decide) (br_f (by decide) (br_t rfl ⟨hi, vp_in_nI ha (by decide), ?_⟩)))⟩
  unfold wpX_print
  dsimp only
  rw [hcq]
  by_cases z : 64 ≤ q
  · rw [if_pos z] at H
    exact br_t (nI_le (a := 64) z (by omega)) (nm_r (nI_1 q) H)
  · rw [if_neg z] at H
    exact br_f (nI_ge (b := 64) (by omega) (by decide)) ⟨vp_in_nI (by omega) (by decide), nm_e (nm_r (nI_1 q) H)⟩
theorem ps_xif {post : Int32 → SX → Prop} {a e : Nat} (hp : p < 40) (ha : a < 6) (hA : A p = nI a) (hP : P p = nI e) (h : K p = 8) (H1 : ¬ V a ≤ 0 → post (nI (p + 1)) (g, f, oc, K, A, B, C, V, O, P, Q, L)) (H0 : V a ≤ 0 → post (nI (e + 1)) (g, f, oc, K, A, B, C, V, O, P, Q, L)) : wpX_pass post (g, f, oc, K, A, B, C, V, O, P, Q, L) (nI p) := by
  have hc : (nI p).toNatClampNeg = p := nI_clamp (by omega)
  have hi : vp_in (nI p) 40 := vp_in_nI hp (by decide)
  have hca : (nI a).toNatClampNeg = a := nI_clamp (by omega)
  unfold wpX_pass
  dsimp only
  rw [hc, nI_1, hA, hca, hP, nI_1]
  exact ⟨hi, nm_r h (br_f (by decide) (br_f (by decide) (br_f (by decide) (br_t rfl ⟨hi, vp_in_nI ha (by decide), br_c (fun z => ⟨hi, H0 z⟩) H1⟩))))⟩
theorem ps_xel {post : Int32 → SX → Prop} {e : Nat} (hp : p < 40) (hP : P p = nI e) (h : K p = 9) (H : post (nI (e + 1)) (g, f, oc, K, A, B, C, V, O, P, Q, L)) : wpX_pass post (g, f, oc, K, A, B, C, V, O, P, Q, L) (nI p) := by
  have hc : (nI p).toNatClampNeg = p := nI_clamp (by omega)
  have hi : vp_in (nI p) 40 := vp_in_nI hp (by decide)
  unfold wpX_pass
  dsimp only
  rw [hc, hP, nI_1 e]
  exact ⟨hi, nm_r h (br_f (by decide) (br_f (by decide) (br_f (by decide) (br_f (by decide) (br_t rfl ⟨hi, H⟩)))))⟩
theorem ps_xlo {post : Int32 → SX → Prop} {a e : Nat} (hp : p < 40) (ha : a < 6) (hA : A p = nI a) (hP : P p = nI e) (h : K p = 10) (H1 : 0 < a → post (nI (p + 1)) (g, f, oc, K, A, B, C, V, O, P, Q, upd L p (nI a))) (H0 : a = 0 → post (nI (e + 1)) (g, f, oc, K, A, B, C, V, O, P, Q, upd L p (nI a))) : wpX_pass post (g, f, oc, K, A, B, C, V, O, P, Q, L) (nI p) := by
  have hc : (nI p).toNatClampNeg = p := nI_clamp (by omega)
  have hi : vp_in (nI p) 40 := vp_in_nI hp (by decide)
  unfold wpX_pass
  dsimp only
  rw [hc]
  refine ⟨hi, nm_r h (br_f (by decide) (br_f (by decide) (br_f (by decide) (br_f (by decide) (br_f (by decide) (br_t rfl ?_))))))⟩
  unfold wpX_beginLoop
  dsimp only
  rw [hc, hA, hP, nI_1 e, nI_1 p]
  refine ⟨hi, hi, nm_e ⟨hi, ?_⟩⟩
  rw [gs_us]
  by_cases z : a = 0
  · exact br_t (by rw [z]; decide) ⟨hi, H0 z⟩
  · exact br_f (nI_nle (by omega) (by omega)) (H1 (by omega))
theorem ps_xei {post : Int32 → SX → Prop} {s : Nat} (hp : p < 40) (hs : s < 40) (hP : P p = nI s) (h : K p = 11) (h' : ¬ K s = 10) (H : post (nI (p + 1)) (g, f, oc, K, A, B, C, V, O, P, Q, L)) : wpX_pass post (g, f, oc, K, A, B, C, V, O, P, Q, L) (nI p) := by
  have hc : (nI p).toNatClampNeg = p := nI_clamp (by omega)
  have hcs : (nI s).toNatClampNeg = s := nI_clamp (by omega)
  have hi : vp_in (nI p) 40 := vp_in_nI hp (by decide)
  unfold wpX_pass
  dsimp only
  rw [hc]
  refine ⟨hi, nm_r h (br_f (by decide) (br_f (by decide) (br_f (by decide) (br_f (by decide) (br_f (by decide) (br_f (by decide) (br_t rfl ?_)))))))⟩
  unfold wpX_passEnd
  dsimp only
  rw [hc, nI_1 p]
  refine ⟨hi, nm_r hP ⟨vp_in_nI hs (by decide), ?_⟩⟩
  rw [hcs]
  exact br_f h' H
theorem ps_xeo {post : Int32 → SX → Prop} {s r : Nat} (hp : p < 40) (hs : s < 40) (hr : r < 100) (hP : P p = nI s) (h : K p = 11) (h' : K s = 10) (hL : L s = nI (r + 1)) (H1 : 0 < r → post (nI (s + 1)) (g, f, oc, K, A, B, C, V, O, P, Q, upd L s (nI r))) (H0 : r = 0 → post (nI (p + 1)) (g, f, oc, K, A, B, C, V, O, P, Q, upd L s (nI r))) : wpX_pass post (g, f, oc, K, A, B, C, V, O, P, Q, L) (nI p) := by
  have hc : (nI p).toNatClampNeg = p := nI_clamp (by omega)
  have hcs : (nI s).toNatClampNeg = s := nI_clamp (by omega)
  have hi : vp_in (nI p) 40 := vp_in_nI hp (by decide)
  have his : vp_in (nI s) 40 := vp_in_nI hs (by decide)
  unfold wpX_pass
  dsimp only
  rw [hc]
  refine ⟨hi, nm_r h (br_f (by decide) (br_f (by decide) (br_f (by decide) (br_f (by decide) (br_f (by decide) (br_f (by decide) (br_t rfl ?_)))))))⟩
  unfold wpX_passEnd
  dsimp only
  rw [hc, nI_1 p]
  refine ⟨hi, nm_r hP ⟨his, ?_⟩⟩
  rw [hcs, hL, nI_pred, nI_1 s]
  refine br_t h' ⟨his, his, nm_e ⟨his, ?_⟩⟩
  rw [gs_us]
  by_cases z : r = 0
  · exact br_t (by rw [z]; decide) (H0 z)
  · exact br_f (nI_nle (by omega) (by omega)) (H1 (by omega))
end
end
section
section
variable {f g : Int32} {K A B C V O L : Nat → Int32} {p : Nat}
theorem py_s286 {post : SY → Prop} (hp : p < 40) (h : ¬ K p = 7) (H : post (g, f, K, A, B, C, V, O, L)) : wY_plain_286 post (nI p) g f K A B C V O L := by
  have hc : (nI p).toNatClampNeg = p := nI_clamp (by omega)
  unfold wY_plain_286
  rw [hc]
  exact ⟨vp_in_nI hp (by decide), br_f h H⟩
theorem py_s234 {post : SY → Prop} (hp : p < 40) (h : ¬ K p = 6) (H : wY_plain_286 post (nI p) g f K A B C V O L) : wY_plain_234 post (nI p) g f K A B C V O L := by
  have hc : (nI p).toNatClampNeg = p := nI_clamp (by omega)
  unfold wY_plain_234
  rw [hc]
  exact ⟨vp_in_nI hp (by decide), br_f h H⟩
theorem py_s190 {post : SY → Prop} (hp : p < 40) (h : ¬ K p = 5) (H : wY_plain_234 post (nI p) g f K A B C V O L) : wY_plain_190 post (nI p) g f K A B C V O L := by
  have hc : (nI p).toNatClampNeg = p := nI_clamp (by omega)
  unfold wY_plain_190
  rw [hc]
  exact ⟨vp_in_nI hp (by decide), br_f h H⟩
theorem py_s146 {post : SY → Prop} (hp : p < 40) (h : ¬ K p = 4) (H : wY_plain_190 post (nI p) g f K A B C V O L) : wY_plain_146 post (nI p) g f K A B C V O L := by
  have hc : (nI p).toNatClampNeg = p := nI_clamp (by omega)
  unfold wY_plain_146
  rw [hc]
  exact ⟨vp_in_nI hp (by decide), br_f h H⟩
theorem py_s102 {post : SY → Prop} (hp : p < 40) (h : ¬ K p = 3) (H : wY_plain_146 post (nI p) g f K A B C V O L) : wY_plain_102 post (nI p) g f K A B C V O L := by
  have hc : (nI p).toNatClampNeg = p := nI_clamp (by omega)
  unfold wY_plain_102
  rw [hc]
  exact ⟨vp_in_nI hp (by decide), br_f h H⟩
theorem py_s58 {post : SY → Prop} (hp : p < 40) (h : ¬ K p = 2) (H : wY_plain_102 post (nI p) g f K A B C V O L) : wY_plain_58 post (nI p) g f K A B C V O L := by
  have hc : (nI p).toNatClampNeg = p := nI_clamp (by omega)
  unfold wY_plain_58
  rw [hc]
  exact ⟨vp_in_nI hp (by decide), br_f h H⟩
theorem py_s26 {post : SY → Prop} (hp : p < 40) (h : ¬ K p = 1) (H : wY_plain_58 post (nI p) g f K A B C V O L) : wY_plain_26 post (nI p) g f K A B C V O L := by
  have hc : (nI p).toNatClampNeg = p := nI_clamp (by omega)
  unfold wY_plain_26
  rw [hc]
  exact ⟨vp_in_nI hp (by decide), br_f h H⟩
theorem py_s0 {post : SY → Prop} (hp : p < 40) (h : ¬ K p = 0) (H : wY_plain_26 post (nI p) g f K A B C V O L) : wpY_plain post (g, f, K, A, B, C, V, O, L) (nI p) := by
  have hc : (nI p).toNatClampNeg = p := nI_clamp (by omega)
  unfold wpY_plain
  dsimp only
  rw [hc]
  exact ⟨vp_in_nI hp (by decide), br_f h H⟩
theorem py_p0 {post : SY → Prop} {a : Nat} (hp : p < 40) (ha : a < 6) (hA : A p = nI a) (h : K p = 0) (H : post (g, f, K, A, B, C, upd V a (B p), O, L)) : wpY_plain post (g, f, K, A, B, C, V, O, L) (nI p) := by
  have hc : (nI p).toNatClampNeg = p := nI_clamp (by omega)
  have hi : vp_in (nI p) 40 := vp_in_nI hp (by decide)
  have hca : (nI a).toNatClampNeg = a := nI_clamp (by omega)
  have hia : vp_in (nI a) 6 := vp_in_nI ha (by decide)
  unfold wpY_plain
  dsimp only
  rw [hc, hA, hca]
  exact ⟨hi, br_t h ⟨hi, hi, hia, nm_e (py_s26 hp (by rw [h]; decide) (py_s58 hp (by rw [h]; decide) (py_s102 hp (by rw [h]; decide) (py_s146 hp (by rw [h]; decide) (py_s190 hp (by rw [h]; decide) (py_s234 hp (by rw [h]; decide) (py_s286 hp (by rw [h]; decide) H)))))))⟩⟩
theorem py_p1 {post : SY → Prop} {a b : Nat} (hp : p < 40) (ha : a < 6) (hA : A p = nI a) (hb : b < 6) (hB : B p = nI b) (h : K p = 1) (H : post (g, f, K, A, B, C, upd V a (V b), O, L)) : wpY_plain post (g, f, K, A, B, C, V, O, L) (nI p) := by
  have hc : (nI p).toNatClampNeg = p := nI_clamp (by omega)
  have hi : vp_in (nI p) 40 := vp_in_nI hp (by decide)
  have hca : (nI a).toNatClampNeg = a := nI_clamp (by omega)
  have hia : vp_in (nI a) 6 := vp_in_nI ha (by decide)
  have hcb : (nI b).toNatClampNeg = b := nI_clamp (by omega)
  have hib : vp_in (nI b) 6 := vp_in_nI hb (by decide)
  refine py_s0 hp (by rw [h]; decide) (?_)
  unfold wY_plain_26
  rw [hc, hA, hca, hB, hcb]
  exact ⟨hi, br_t h ⟨hi, hi, hib, hia, nm_e (py_s58 hp (by rw [h]; decide) (py_s102 hp (by rw [h]; decide) (py_s146 hp (by rw [h]; decide) (py_s190 hp (by rw [h]; decide) (py_s234 hp (by rw [h]; decide) (py_s286 hp (by rw [h]; decide) H))))))⟩⟩
theorem py_p2 {post : SY → Prop} {a b c : Nat} (hp : p < 40) (ha : a < 6) (hA : A p = nI a) (hb : b < 6) (hB : B p = nI b) (hcc : c < 6) (hC : C p = nI c) (h : K p = 2) (H : post (g, f, K, A, B, C, upd V a (V b + V c), O, L)) : wpY_plain post (g, f, K, A, B, C, V, O, L) (nI p) := by
  have hc : (nI p).toNatClampNeg = p := nI_clamp (by omega)
  have hi : vp_in (nI p) 40 := vp_in_nI hp (by decide)
  have hca : (nI a).toNatClampNeg = a := nI_clamp (by omega)
  have hia : vp_in (nI a) 6 := vp_in_nI ha (by decide)
  have hcb : (nI b).toNatClampNeg = b := nI_clamp (by omega)
  have hib : vp_in (nI b) 6 := vp_in_nI hb (by decide)
  have hcd : (nI c).toNatClampNeg = c := nI_clamp (by omega)
  have hic : vp_in (nI c) 6 := vp_in_nI hcc (by decide)
  refine py_s0 hp (by rw [h]; decide) (py_s26 hp (by rw [h]; decide) (?_))
  unfold wY_plain_58
  rw [hc, hA, hca, hB, hcb, hC, hcd]
  exact ⟨hi, br_t h ⟨hi, hi, hib, hi, hic, hia, nm_e (py_s102 hp (by rw [h]; decide) (py_s146 hp (by rw [h]; decide) (py_s190 hp (by rw [h]; decide) (py_s234 hp (by rw [h]; decide) (py_s286 hp (by rw [h]; decide) H)))))⟩⟩
theorem py_p3 {post : SY → Prop} {a b c : Nat} (hp : p < 40) (ha : a < 6) (hA : A p = nI a) (hb : b < 6) (hB : B p = nI b) (hcc : c < 6) (hC : C p = nI c) (h : K p = 3) (H : post (g, f, K, A, B, C, upd V a (V b - V c), O, L)) : wpY_plain post (g, f, K, A, B, C, V, O, L) (nI p) := by
  have hc : (nI p).toNatClampNeg = p := nI_clamp (by omega)
  have hi : vp_in (nI p) 40 := vp_in_nI hp (by decide)
  have hca : (nI a).toNatClampNeg = a := nI_clamp (by omega)
  have hia : vp_in (nI a) 6 := vp_in_nI ha (by decide)
  have hcb : (nI b).toNatClampNeg = b := nI_clamp (by omega)
  have hib : vp_in (nI b) 6 := vp_in_nI hb (by decide)
  have hcd : (nI c).toNatClampNeg = c := nI_clamp (by omega)
  have hic : vp_in (nI c) 6 := vp_in_nI hcc (by decide)
  refine py_s0 hp (by rw [h]; decide) (py_s26 hp (by rw [h]; decide) (py_s58 hp (by rw [h]; decide) (?_)))
  unfold wY_plain_102
  rw [hc, hA, hca, hB, hcb, hC, hcd]
  exact ⟨hi, br_t h ⟨hi, hi, hib, hi, hic, hia, nm_e (py_s146 hp (by rw [h]; decide) (py_s190 hp (by rw [h]; decide) (py_s234 hp (by rw [h]; decide) (py_s286 hp (by rw [h]; decide) H))))⟩⟩
theorem py_p4 {post : SY → Prop} {a b c : Nat} (hp : p < 40) (ha : a < 6) (hA : A p = nI a) (hb : b < 6) (hB : B p = nI b) (hcc : c < 6) (hC : C p = nI c) (h : K p = 4) (H : post (g, f, K, A, B, C, upd V a (V b * V c), O, L)) : wpY_plain post (g, f, K, A, B, C, V, O, L) (nI p) := by
  have hc : (nI p).toNatClampNeg = p := nI_clamp (by omega)
  have hi : vp_in (nI p) 40 := vp_in_nI hp (by decide)
  have hca : (nI a).toNatClampNeg = a := nI_clamp (by omega)
  have hia : vp_in (nI a) 6 := vp_in_nI ha (by decide)
  have hcb : (nI b).toNatClampNeg = b := nI_clamp (by omega)
  have hib : vp_in (nI b) 6 := vp_in_nI hb (by decide)
  have hcd : (nI c).toNatClampNeg = c := nI_clamp (by omega)
  have hic : vp_in (nI c) 6 := vp_in_nI hcc (by decide)
  refine py_s0 hp (by rw [h]; decide) (py_s26 hp (by rw [h]; decide) (py_s58 hp (by rw [h]; decide) (py_s102 hp (by rw [h]; decide) (?_))))
  unfold wY_plain_146
  rw [hc, hA, hca, hB, hcb, hC, hcd]
  exact ⟨hi, br_t h ⟨hi, hi, hib, hi, hic, hia, nm_e (py_s190 hp (by rw [h]; decide) (py_s234 hp (by rw [h]; decide) (py_s286 hp (by rw [h]; decide) H)))⟩⟩
theorem py_p5 {post : SY → Prop} {a b c : Nat} (hp : p < 40) (ha : a < 6) (hA : A p = nI a) (hb : b < 6) (hB : B p = nI b) (hcc : c < 6) (hC : C p = nI c) (h : K p = 5) (H : post (g, f, K, A, B, C, upd V a (V b ^^^ V c), O, L)) : wpY_plain post (g, f, K, A, B, C, V, O, L) (nI p) := by
  have hc : (nI p).toNatClampNeg = p := nI_clamp (by omega)
  have hi : vp_in (nI p) 40 := vp_in_nI hp (by decide)
  have hca : (nI a).toNatClampNeg = a := nI_clamp (by omega)
  have hia : vp_in (nI a) 6 := vp_in_nI ha (by decide)
  have hcb : (nI b).toNatClampNeg = b := nI_clamp (by omega)
  have hib : vp_in (nI b) 6 := vp_in_nI hb (by decide)
  have hcd : (nI c).toNatClampNeg = c := nI_clamp (by omega)
  have hic : vp_in (nI c) 6 := vp_in_nI hcc (by decide)
  refine py_s0 hp (by rw [h]; decide) (py_s26 hp (by rw [h]; decide) (py_s58 hp (by rw [h]; decide) (py_s102 hp (by rw [h]; decide) (py_s146 hp (by rw [h]; decide) (?_)))))
  unfold wY_plain_190
  rw [hc, hA, hca, hB, hcb, hC, hcd]
  exact ⟨hi, br_t h ⟨hi, hi, hib, hi, hic, hia, nm_e (py_s234 hp (by rw [h]; decide) (py_s286 hp (by rw [h]; decide) H))⟩⟩
theorem py_p6 {post : SY → Prop} {a b c : Nat} (hp : p < 40) (ha : a < 6) (hA : A p = nI a) (hb : b < 6) (hB : B p = nI b) (hcc : c < 6) (hC : C p = nI c) (h : K p = 6) (H : post (g, f, K, A, B, C, upd V a (if V c ≤ V b then 0 else 1), O, L)) : wpY_plain post (g, f, K, A, B, C, V, O, L) (nI p) := by
  have hc : (nI p).toNatClampNeg = p := nI_clamp (by omega)
  have hi : vp_in (nI p) 40 := vp_in_nI hp (by decide)
  have hca : (nI a).toNatClampNeg = a := nI_clamp (by omega)
  have hia : vp_in (nI a) 6 := vp_in_nI ha (by decide)
  have hcb : (nI b).toNatClampNeg = b := nI_clamp (by omega)
  have hib : vp_in (nI b) 6 := vp_in_nI hb (by decide)
  have hcd : (nI c).toNatClampNeg = c := nI_clamp (by omega)
  have hic : vp_in (nI c) 6 := vp_in_nI hcc (by decide)
  refine py_s0 hp (by rw [h]; decide) (py_s26 hp (by rw [h]; decide) (py_s58 hp (by rw [h]; decide) (py_s102 hp (by rw [h]; decide) (py_s146 hp (by rw [h]; decide) (py_s190 hp (by rw [h]; decide) (?_))))))
  unfold wY_plain_234
  rw [hc, hA, hB, hcb, hC, hcd]
  refine ⟨hi, br_t h ⟨hi, hi, hib, hi, hic, ?_⟩⟩
  unfold wY_plain_285
  rw [hca]
  by_cases z : V c ≤ V b
  · rw [if_pos z] at H
    exact br_t z ⟨hia, nm_e (py_s286 hp (by rw [h]; decide) H)⟩
  · rw [if_neg z] at H
    exact br_f z ⟨hia, nm_e (py_s286 hp (by rw [h]; decide) H)⟩
theorem py_p7 {post : SY → Prop} {a q : Nat} (hp : p < 40) (ha : a < 6) (hA : A p = nI a) (hq : q < 100000) (h : K p = 7) (H : post (g, nI (q + 1), K, A, B, C, V, (if 64 ≤ q then O else upd O q (V a)), L)) : wpY_plain post (g, nI q, K, A, B, C, V, O, L) (nI p) := by
  have hc : (nI p).toNatClampNeg = p := nI_clamp (by omega)
  have hi : vp_in (nI p) 40 := vp_in_nI hp (by decide)
  have hca : (nI a).toNatClampNeg = a := nI_clamp (by omega)
  have hia : vp_in (nI a) 6 := vp_in_nI ha (by decide)
  have hcq : (nI q).toNatClampNeg = q := nI_clamp (by omega)
  refine py_s0 hp (by rw [h]; decide) (py_s26 hp (by rw [h]; decide) (py_s58 hp (by rw [h]; decide) (py_s102 hp (by rw [h]; decide) (py_s146 hp (by rw [h]; decide) (py_s190 hp (by rw [h]; decide) (py_s234 hp (by rw [h]; decide) (?_)))))))
  unfold wY_plain_286
  rw [hc, hA, hca, hcq]
  refine ⟨hi, br_t h ?_⟩
  by_cases z : 64 ≤ q
  · rw [if_pos z] at H
    exact br_t (nI_le (a := 64) z (by omega)) (nm_r (nI_1 q) H)
  · rw [if_neg z] at H
    exact br_f (nI_ge (b := 64) (by omega) (by decide)) ⟨hi, hia, vp_in_nI (by omega) (by decide), nm_e (nm_r (nI_1 q) H)⟩
/-- pass: a plain statement -/
theorem py_plain {post : Int32 → SY → Prop} (hp : p < 40) (h8 : ¬ (K p = 8 ∨ K p = 10)) (h9 : ¬ K p = 9) (h11 : ¬ K p = 11) (H : wpY_plain (fun v => post (nI (p + 1)) v) (g, f, K, A, B, C, V, O, L) (nI p)) : wpY_pass post (g, f, K, A, B, C, V, O, L) (nI p) := by
  have hc : (nI p).toNatClampNeg = p := nI_clamp (by omega)
  have hi : vp_in (nI p) 40 := vp_in_nI hp (by decide)
  unfold wpY_pass
  dsimp only
  refine ys_opens0 hp h8 (br_t rfl ?_)
  unfold wY_pass_17
  rw [hc, nI_1]
  exact ⟨hi, br_f (fun z => h8 (Or.inl z)) ⟨hi, br_f (fun z => h8 (Or.inr z)) ⟨hi, br_f h9 ⟨hi, br_f h11 H⟩⟩⟩⟩
end
section
variable {f : Int32} {K A B C V O L : Nat → Int32} {p n : Nat}
/-- pass: an IFPOS with an ELSE -/
theorem py_ife {post : Int32 → SY → Prop} {a c e : Nat} (hcn : c < n) (hn : n ≤ 40) (ha : a < 6) (hA : A p = nI a) (h : K p = 8) (hKc : K c = 11) (hOc : gs_O K c p) (hie : e < c) (hK : K e = 9) (hO : gs_O K e p) (hf : ∀ k, p < k → k < e → K k = 9 → ∃ o, gs_O K k o ∧ o ≠ p) (H1 : ¬ V a ≤ 0 → post (nI (p + 1)) (nI n, f, K, A, B, C, V, O, L)) (H0 : V a ≤ 0 → post (nI (e + 1)) (nI n, f, K, A, B, C, V, O, L)) : wpY_pass post (nI n, f, K, A, B, C, V, O, L) (nI p) := by
  have hpc := hOc.1
  have hp : p < 40 := by omega
  have hc : (nI p).toNatClampNeg = p := nI_clamp (by omega)
  have hca : (nI a).toNatClampNeg = a := nI_clamp (by omega)
  have hi : vp_in (nI p) 40 := vp_in_nI hp (by decide)
  unfold wpY_pass
  dsimp only
  refine ys_opens1 hp (Or.inl h) (br_f ys_1n0 (ys_end hcn hn hKc hOc _ ?_))
  unfold wY_pass_17
  rw [hc, hA, hca, nI_1 p]
  refine ⟨hi, br_t h (ys_els hcn hn hKc hOc hie hK hO hf _ ⟨hi, vp_in_nI ha (by decide), br_c (fun z => br_t (nI_pos' (by omega)) ?_) H1⟩)⟩
  rw [nI_1 e]
  exact H0 z
theorem py_ifn {post : Int32 → SY → Prop} {a c : Nat} (hcn : c < n) (hn : n ≤ 40) (ha : a < 6) (hA : A p = nI a) (h : K p = 8) (hKc : K c = 11) (hOc : gs_O K c p) (hf : ∀ k, p < k → k < c → K k = 9 → ∃ o, gs_O K k o ∧ o ≠ p) (H1 : ¬ V a ≤ 0 → post (nI (p + 1)) (nI n, f, K, A, B, C, V, O, L)) (H0 : V a ≤ 0 → post (nI (c + 1)) (nI n, f, K, A, B, C, V, O, L)) : wpY_pass post (nI n, f, K, A, B, C, V, O, L) (nI p) := by
  have hpc := hOc.1
  have hp : p < 40 := by omega
  have hc : (nI p).toNatClampNeg = p := nI_clamp (by omega)
  have hca : (nI a).toNatClampNeg = a := nI_clamp (by omega)
  have hi : vp_in (nI p) 40 := vp_in_nI hp (by decide)
  unfold wpY_pass
  dsimp only
  refine ys_opens1 hp (Or.inl h) (br_f ys_1n0 (ys_end hcn hn hKc hOc _ ?_))
  unfold wY_pass_17
  rw [hc, hA, hca, nI_1 p, nI_1 c]
  exact ⟨hi, br_t h (ys_nel hcn hn hKc hOc hf _ ⟨hi, vp_in_nI ha (by decide), br_c (fun z => br_f (by decide) (H0 z)) H1⟩)⟩
theorem py_lo {post : Int32 → SY → Prop} {a c : Nat} (hcn : c < n) (hn : n ≤ 40) (ha : a < 6) (hA : A p = nI a) (h : K p = 10) (hKc : K c = 11) (hOc : gs_O K c p) (H1 : 0 < a → post (nI (p + 1)) (nI n, f, K, A, B, C, V, O, upd L p (nI a))) (H0 : a = 0 → post (nI (c + 1)) (nI n, f, K, A, B, C, V, O, upd L p (nI a))) : wpY_pass post (nI n, f, K, A, B, C, V, O, L) (nI p) := by
  have hpc := hOc.1
  have hp : p < 40 := by omega
  have hc : (nI p).toNatClampNeg = p := nI_clamp (by omega)
  have hi : vp_in (nI p) 40 := vp_in_nI hp (by decide)
  unfold wpY_pass
  dsimp only
  refine ys_opens1 hp (Or.inr h) (br_f ys_1n0 (ys_end hcn hn hKc hOc _ ?_))
  unfold wY_pass_17
  rw [hc, hA, nI_1 p, nI_1 c]
  refine ⟨hi, br_f (by rw [h]; decide) ⟨hi, br_t h ⟨hi, hi, nm_e ⟨hi, ?_⟩⟩⟩⟩
  by_cases z : a = 0
  · exact br_t (by rw [z]; exact nI_0) (H0 z)
  · exact br_f (nI_ne0 (by omega) (by omega)) (H1 (by omega))
theorem py_el {post : Int32 → SY → Prop} {o c : Nat} (hcn : c < n) (hn : n ≤ 40) (hpn : p < n) (h : K p = 9) (hO : gs_O K p o) (hKc : K c = 11) (hOc : gs_O K c o) (H : post (nI (c + 1)) (nI n, f, K, A, B, C, V, O, L)) : wpY_pass post (nI n, f, K, A, B, C, V, O, L) (nI p) := by
  have hp : p < 40 := by omega
  have hc : (nI p).toNatClampNeg = p := nI_clamp (by omega)
  have hi : vp_in (nI p) 40 := vp_in_nI hp (by decide)
  unfold wpY_pass
  dsimp only
  refine ys_opens0 hp (gs_nop9 h) (br_t rfl ?_)
  unfold wY_pass_17
  rw [hc]
  refine ⟨hi, br_f (by rw [h]; decide) ⟨hi, br_f (by rw [h]; decide) ⟨hi, br_t h (ys_opn (by omega) hO _ (ys_end hcn hn hKc hOc _ ?_))⟩⟩⟩
  rw [nI_1 c]
  exact H
theorem py_ei {post : Int32 → SY → Prop} {o : Nat} (hn : n ≤ 40) (hpn : p < n) (h : K p = 11) (hO : gs_O K p o) (hK : K o = 8) (H : post (nI (p + 1)) (nI n, f, K, A, B, C, V, O, L)) : wpY_pass post (nI n, f, K, A, B, C, V, O, L) (nI p) := by
  have hp : p < 40 := by omega
  have hop := hO.1
  have hc : (nI p).toNatClampNeg = p := nI_clamp (by omega)
  have hco : (nI o).toNatClampNeg = o := nI_clamp (by omega)
  have hi : vp_in (nI p) 40 := vp_in_nI hp (by decide)
  unfold wpY_pass
  dsimp only
  refine ys_opens0 hp (gs_nop11 h) (br_t rfl ?_)
  unfold wY_pass_17
  rw [hc, nI_1 p]
  refine ⟨hi, br_f (by rw [h]; decide) ⟨hi, br_f (by rw [h]; decide) ⟨hi, br_f (by rw [h]; decide) ⟨hi, br_t h (ys_opn (by omega) hO _ ⟨vp_in_nI (by omega) (by decide), ?_⟩)⟩⟩⟩⟩
  rw [hco]
  exact br_t hK H
theorem py_eo {post : Int32 → SY → Prop} {o r : Nat} (hn : n ≤ 40) (hpn : p < n) (h : K p = 11) (hO : gs_O K p o) (hK : K o = 10) (hr : r < 100) (hL : L o = nI (r + 1)) (H1 : 0 < r → post (nI (o + 1)) (nI n, f, K, A, B, C, V, O, upd L o (nI r))) (H0 : r = 0 → post (nI (p + 1)) (nI n, f, K, A, B, C, V, O, upd L o (nI r))) : wpY_pass post (nI n, f, K, A, B, C, V, O, L) (nI p) := by
  have hp : p < 40 := by omega
  have hop := hO.1
  have hc : (nI p).toNatClampNeg = p := nI_clamp (by omega)
  have hco : (nI o).toNatClampNeg = o := nI_clamp (by omega)
  have hi : vp_in (nI p) 40 := vp_in_nI hp (by decide)
  have hio : vp_in (nI o) 40 := vp_in_nI (by omega) (by decide)
  unfold wpY_pass
  dsimp only
  refine ys_opens0 hp (gs_nop11 h) (br_t rfl ?_)
  unfold wY_pass_17
  rw [hc, nI_1 p]
  refine ⟨hi, br_f (by rw [h]; decide) ⟨hi, br_f (by rw [h]; decide) ⟨hi, br_f (by rw [h]; decide) ⟨hi, br_t h (ys_opn (by omega) hO _ ⟨hio, ?_⟩)⟩⟩⟩⟩
  rw [hco, hL, nI_pred, nI_1 o]
  refine br_f (by rw [hK]; decide) ⟨hio, hio, nm_e ⟨hio, ?_⟩⟩
  rw [gs_us]
  by_cases z : r = 0
  · exact br_t (by rw [z]; decide) (H0 z)
  · exact br_f (nI_nle (by omega) (by omega)) (H1 (by omega))
end
end
section
/-- a statement that add takes -/
def rn_F (k a b c : Int32) : Prop := ∃ kk : Nat, kk ≤ 11 ∧ k = nI kk ∧ (kk ≠ 9 → kk ≠ 11 → ∃ j, j < 6 ∧ a = nI j) ∧ (1 ≤ kk → kk ≤ 6 → ∃ j, j < 6 ∧ b = nI j) ∧ (2 ≤ kk → kk ≤ 6 → ∃ j, j < 6 ∧ c = nI j)
/-- a sound program with its table of partners -/
def rn_H (n : Nat) (K A B C P : Nat → Int32) : Prop := n ≤ 40 ∧ gs_S K n ∧ gs_d K n = 0 ∧ gs_P K n P ∧ ∀ i, i < n → rn_F (K i) (A i) (B i) (C i)
/-- what a run changes: count printed, variables, output, passes left -/
abbrev rn_St : Type := Nat × (Nat → Int32) × (Nat → Int32) × (Nat → Int32)
/-- both sides pass p alike -/
def rn_One (n : Nat) (oc : Int32) (K A B C P Q : Nat → Int32) (p : Nat) (s : rn_St) (p' : Nat) (s' : rn_St) : Prop :=
  s'.1 ≤ s.1 + 1 ∧ (s.1 < 100000 → (∀ post : Int32 → SX → Prop, post (nI p') (nI n, nI s'.1, oc, K, A, B, C, s'.2.1, s'.2.2.1, P, Q, s'.2.2.2) → wpX_pass post (nI n, nI s.1, oc, K, A, B, C, s.2.1, s.2.2.1, P, Q, s.2.2.2) (nI p)) ∧ (∀ post : Int32 → SY → Prop, post (nI p') (nI n, nI s'.1, K, A, B, C, s'.2.1, s'.2.2.1, s'.2.2.2) → wpY_pass post (nI n, nI s.1, K, A, B, C, s.2.1, s.2.2.1, s.2.2.2) (nI p)))
theorem rn_lt7 {k : Nat} (h : k ≤ 6) : nI k < 7 := nI_lt (b := 7) (by omega) (by decide)
section
variable {n : Nat} {oc : Int32} {K A B C P Q : Nat → Int32} {p : Nat}
/-- the operand of a statement that has one -/
theorem rn_a {k a b c : Int32} (h : rn_F k a b c) (h9 : ¬ k = 9) (h11 : ¬ k = 11) : ∃ j, j < 6 ∧ a = nI j := by
  obtain ⟨kk, h1, h2, h3, _, _⟩ := h
  exact h3 (fun z => h9 (by rw [h2, z]; decide)) (fun z => h11 (by rw [h2, z]; decide))
theorem rn_plain (H : rn_H n K A B C P) (hp : p < n) (h8 : ¬ (K p = 8 ∨ K p = 10)) (h9 : ¬ K p = 9) (h11 : ¬ K p = 11) (s : rn_St) : ∃ s', rn_One n oc K A B C P Q p s (p + 1) s' ∧ s'.2.2.2 = s.2.2.2 := by
  obtain ⟨hn, hS, hd, hP, hF⟩ := H
  have hp4 : p < 40 := by omega
  obtain ⟨a, ha, hA⟩ := rn_a (hF p hp) h9 h11
  obtain ⟨kk, k1, k2, _, k4, k5⟩ := hF p hp
  obtain ⟨f, V, O, L⟩ := s
  have c0 : kk = 0 ∨ kk = 1 ∨ kk = 2 ∨ kk = 3 ∨ kk = 4 ∨ kk = 5 ∨ kk = 6 ∨ kk = 7 ∨ kk = 8 ∨ kk = 9 ∨ kk = 10 ∨ kk = 11 := by omega
  rcases c0 with c | c | c | c | c | c | c | c | c | c | c | c <;> subst c
  · have hK : K p = 0 := by rw [k2]; decide
    exact ⟨(f, upd V a (B p), O, L), ⟨by simp, fun _ => ⟨fun post H => ps_xas hp4 (by rw [k2]; decide) (ps_as0 hp4 ha hA hK H), fun post H => py_plain hp4 h8 h9 h11 (py_p0 hp4 ha hA hK H)⟩⟩, rfl⟩
  · have hK : K p = 1 := by rw [k2]; decide
    obtain ⟨b, hb, hB⟩ := k4 (by omega) (by omega)
    exact ⟨(f, upd V a (V b), O, L), ⟨by simp, fun _ => ⟨fun post H => ps_xas hp4 (by rw [k2]; decide) (ps_as1 hp4 ha hA hb hB hK H), fun post H => py_plain hp4 h8 h9 h11 (py_p1 hp4 ha hA hb hB hK H)⟩⟩, rfl⟩
  · have hK : K p = 2 := by rw [k2]; decide
    obtain ⟨b, hb, hB⟩ := k4 (by omega) (by omega)
    obtain ⟨c, hc, hC⟩ := k5 (by omega) (by omega)
    exact ⟨(f, upd V a (V b + V c), O, L), ⟨by simp, fun _ => ⟨fun post H => ps_xas hp4 (by rw [k2]; decide) (ps_as2 hp4 ha hA hb hB hc hC (by rw [hK]; decide) (by rw [hK]; decide) (V b + V c) (fun _ h => ps_cmb2 hK h) H), fun post H => py_plain hp4 h8 h9 h11 (py_p2 hp4 ha hA hb hB hc hC hK H)⟩⟩, rfl⟩
  · have hK : K p = 3 := by rw [k2]; decide
    obtain ⟨b, hb, hB⟩ := k4 (by omega) (by omega)
    obtain ⟨c, hc, hC⟩ := k5 (by omega) (by omega)
    exact ⟨(f, upd V a (V b - V c), O, L), ⟨by simp, fun _ => ⟨fun post H => ps_xas hp4 (by rw [k2]; decide) (ps_as2 hp4 ha hA hb hB hc hC (by rw [hK]; decide) (by rw [hK]; decide) (V b - V c) (fun _ h => ps_cmb3 hK h) H), fun post H => py_plain hp4 h8 h9 h11 (py_p3 hp4 ha hA hb hB hc hC hK H)⟩⟩, rfl⟩
  · have hK : K p = 4 := by rw [k2]; decide
    obtain ⟨b, hb, hB⟩ := k4 (by omega) (by omega)
    obtain ⟨c, hc, hC⟩ := k5 (by omega) (by omega)
    exact ⟨(f, upd V a (V b * V c), O, L), ⟨by simp, fun _ => ⟨fun post H => ps_xas hp4 (by rw [k2]; decide) (ps_as2 hp4 ha hA hb hB hc hC (by rw [hK]; decide) (by rw [hK]; decide) (V b * V c) (fun _ h => ps_cmb4 hK h) H), fun post H => py_plain hp4 h8 h9 h11 (py_p4 hp4 ha hA hb hB hc hC hK H)⟩⟩, rfl⟩
  · have hK : K p = 5 := by rw [k2]; decide
    obtain ⟨b, hb, hB⟩ := k4 (by omega) (by omega)
    obtain ⟨c, hc, hC⟩ := k5 (by omega) (by omega)
    exact ⟨(f, upd V a (V b ^^^ V c), O, L), ⟨by simp, fun _ => ⟨fun post H => ps_xas hp4 (by rw [k2]; decide) (ps_as2 hp4 ha hA hb hB hc hC (by rw [hK]; decide) (by rw [hK]; decide) (V b ^^^ V c) (fun _ h => ps_cmb5 hK h) H), fun post H => py_plain hp4 h8 h9 h11 (py_p5 hp4 ha hA hb hB hc hC hK H)⟩⟩, rfl⟩
  · have hK : K p = 6 := by rw [k2]; decide
    obtain ⟨b, hb, hB⟩ := k4 (by omega) (by omega)
    obtain ⟨c, hc, hC⟩ := k5 (by omega) (by omega)
    refine ⟨(f, upd V a (if V c ≤ V b then 0 else 1), O, L), ⟨by simp, fun _ => ⟨fun post H => ps_xas hp4 (by rw [k2]; decide) (ps_as2 hp4 ha hA hb hB hc hC (by rw [hK]; decide) (by rw [hK]; decide) (if V c ≤ V b then 0 else 1) (fun _ h => ?_) H), fun post H => py_plain hp4 h8 h9 h11 (py_p6 hp4 ha hA hb hB hc hC hK H)⟩⟩, rfl⟩
    by_cases z : V c ≤ V b
    · rw [if_pos z] at h; exact ps_cmb6a hK z h
    · rw [if_neg z] at h; exact ps_cmb6b hK z h
  · have hK : K p = 7 := by rw [k2]; decide
    exact ⟨(f + 1, V, (if 64 ≤ f then O else upd O f (V a)), L), ⟨by simp, fun hf => ⟨fun post H => ps_xpr hp4 ha hA hf hK H, fun post H => py_plain hp4 h8 h9 h11 (py_p7 hp4 ha hA hf hK H)⟩⟩, rfl⟩
  · exact absurd (Or.inl (by rw [k2]; decide)) h8
  · exact absurd (by rw [k2]; decide) h9
  · exact absurd (Or.inr (by rw [k2]; decide)) h8
  · exact absurd (by rw [k2]; decide) h11
/-- an ELSE's opener is an IFPOS, and has no other ELSE -/
theorem rn_el8 (hS : gs_S K n) {e o : Nat} (he : e < n) (hK : K e = 9) (hO : gs_O K e o) : K o = 8 := by
  obtain ⟨o', h1, h2, _⟩ := hS.2 e he hK
  rw [gs_Ouq hO h1]; exact h2
theorem rn_eluq (hS : gs_S K n) {e e' o : Nat} (he : e < n) (hK : K e = 9) (hO : gs_O K e o) (he' : e' < n) (hK' : K e' = 9) (hO' : gs_O K e' o) : e = e' := by
  by_cases l : e < e'
  · obtain ⟨o', h1, _, h3⟩ := hS.2 e' he' hK'
    have := gs_Ouq hO' h1
    exact absurd (this ▸ hO) (h3 e l hK)
  · by_cases l' : e' < e
    · obtain ⟨o', h1, _, h3⟩ := hS.2 e he hK
      have := gs_Ouq hO h1
      exact absurd (this ▸ hO') (h3 e' l' hK')
    · omega
theorem rn_ife (H : rn_H n K A B C P) {c e : Nat} (hcn : c < n) (h : K p = 8) (hKc : K c = 11) (hOc : gs_O K c p) (he : e < n) (hKe : K e = 9) (hO : gs_O K e p) (s : rn_St) : rn_One n oc K A B C P Q p s (p + 1) s ∨ rn_One n oc K A B C P Q p s (e + 1) s := by
  obtain ⟨hn, hS, hd, hP, hF⟩ := H
  have hpc := hOc.1
  have hpn : p < n := by omega
  obtain ⟨a, ha, hA⟩ := rn_a (hF p hpn) (by rw [h]; decide) (by rw [h]; decide)
  have hPp := hP.1 p e he hKe hO
  have hec : e < c := by
    have := gs_elc hKc hOc hO
    by_cases z : e = c
    · rw [z, hKc] at hKe; exact absurd hKe gs_e119
    · omega
  have hf : ∀ k, p < k → k < e → K k = 9 → ∃ o, gs_O K k o ∧ o ≠ p := by
    intro k k1 k2 k3
    obtain ⟨o, h1, _, _⟩ := hS.2 k (by omega) k3
    refine ⟨o, h1, fun z => ?_⟩
    have := rn_eluq hS he hKe hO (by omega) k3 (z ▸ h1)
    omega
  obtain ⟨f, V, O, L⟩ := s
  by_cases z : V a ≤ 0
  · exact Or.inr ⟨by simp, fun _ => ⟨fun post H => ps_xif (by omega) ha hA hPp h (fun w => absurd z w) (fun _ => H), fun post H => py_ife hcn hn ha hA h hKc hOc hec hKe hO hf (fun w => absurd z w) (fun _ => H)⟩⟩
  · exact Or.inl ⟨by simp, fun _ => ⟨fun post H => ps_xif (by omega) ha hA hPp h (fun _ => H) (fun w => absurd w z), fun post H => py_ife hcn hn ha hA h hKc hOc hec hKe hO hf (fun _ => H) (fun w => absurd w z)⟩⟩
/-- the partner of an opening without an ELSE -/
theorem rn_pno (hP : gs_P K n P) {c : Nat} (hcn : c < n) (hKc : K c = 11) (hOc : gs_O K c p) (hne : ∀ e, e < n → K e = 9 → ¬ gs_O K e p) : P p = nI c := by
  obtain ⟨s, hs, e1, e2⟩ := hP.2 p c hcn hKc hOc
  rcases hs with ⟨h, _⟩ | ⟨h1, h2, h3⟩
  · rw [← h]; exact e1
  · exact absurd h3 (hne s (by omega) h2)
theorem rn_ifn (H : rn_H n K A B C P) {c : Nat} (hcn : c < n) (h : K p = 8) (hKc : K c = 11) (hOc : gs_O K c p) (hne : ∀ e, e < n → K e = 9 → ¬ gs_O K e p) (s : rn_St) : rn_One n oc K A B C P Q p s (p + 1) s ∨ rn_One n oc K A B C P Q p s (c + 1) s := by
  obtain ⟨hn, hS, hd, hP, hF⟩ := H
  have hpc := hOc.1
  have hpn : p < n := by omega
  obtain ⟨a, ha, hA⟩ := rn_a (hF p hpn) (by rw [h]; decide) (by rw [h]; decide)
  have hPp := rn_pno hP hcn hKc hOc hne
  have hf : ∀ k, p < k → k < c → K k = 9 → ∃ o, gs_O K k o ∧ o ≠ p := by
    intro k k1 k2 k3
    obtain ⟨o, h1, _, _⟩ := hS.2 k (by omega) k3
    exact ⟨o, h1, fun z => hne k (by omega) k3 (z ▸ h1)⟩
  obtain ⟨f, V, O, L⟩ := s
  by_cases z : V a ≤ 0
  · exact Or.inr ⟨by simp, fun _ => ⟨fun post H => ps_xif (by omega) ha hA hPp h (fun w => absurd z w) (fun _ => H), fun post H => py_ifn hcn hn ha hA h hKc hOc hf (fun w => absurd z w) (fun _ => H)⟩⟩
  · exact Or.inl ⟨by simp, fun _ => ⟨fun post H => ps_xif (by omega) ha hA hPp h (fun _ => H) (fun w => absurd w z), fun post H => py_ifn hcn hn ha hA h hKc hOc hf (fun _ => H) (fun w => absurd w z)⟩⟩
theorem rn_else (H : rn_H n K A B C P) {o c : Nat} (hpn : p < n) (hcn : c < n) (h : K p = 9) (hO : gs_O K p o) (hKc : K c = 11) (hOc : gs_O K c o) (s : rn_St) : rn_One n oc K A B C P Q p s (c + 1) s := by
  obtain ⟨hn, hS, hd, hP, hF⟩ := H
  have hPp : P p = nI c := by
    obtain ⟨t, ht, e1, e2⟩ := hP.2 o c hcn hKc hOc
    have hpc := gs_elc hKc hOc hO
    have hpc' : p ≠ c := fun z => gs_e119 (by rw [← hKc, ← z]; exact h)
    rcases ht with ⟨_, h1⟩ | ⟨h1, h2, h3⟩
    · exact absurd hO (h1 p (by omega) h)
    · have := rn_eluq hS hpn h hO (by omega) h2 h3
      rw [this]; exact e1
  obtain ⟨f, V, O, L⟩ := s
  exact ⟨by simp, fun _ => ⟨fun post H => ps_xel (by omega) hPp h H, fun post H => py_el hcn hn hpn h hO hKc hOc H⟩⟩
theorem rn_lo (H : rn_H n K A B C P) {c : Nat} (hcn : c < n) (h : K p = 10) (hKc : K c = 11) (hOc : gs_O K c p) (s : rn_St) : (∃ L', rn_One n oc K A B C P Q p s (c + 1) (s.1, s.2.1, s.2.2.1, L') ∧ ∀ j, j < p → L' j = s.2.2.2 j) ∨ (∃ r, r < 5 ∧ rn_One n oc K A B C P Q p s (p + 1) (s.1, s.2.1, s.2.2.1, upd s.2.2.2 p (nI (r + 1)))) := by
  obtain ⟨hn, hS, hd, hP, hF⟩ := H
  have hpc := hOc.1
  have hpn : p < n := by omega
  obtain ⟨a, ha, hA⟩ := rn_a (hF p hpn) (by rw [h]; decide) (by rw [h]; decide)
  have hne : ∀ e, e < n → K e = 9 → ¬ gs_O K e p := by
    intro e he hK hO
    have := rn_el8 hS he hK hO
    rw [h] at this
    exact gs_e108 this
  have hPp := rn_pno hP hcn hKc hOc hne
  obtain ⟨f, V, O, L⟩ := s
  cases a with
  | zero => exact Or.inl ⟨upd L p (nI 0), ⟨by simp, fun _ => ⟨fun post H => ps_xlo (by omega) ha hA hPp h (fun w => absurd w (by omega)) (fun _ => H), fun post H => py_lo hcn hn ha hA h hKc hOc (fun w => absurd w (by omega)) (fun _ => H)⟩⟩, fun j hj => gs_un (by omega)⟩
  | succ r => exact Or.inr ⟨r, by omega, by simp, fun _ => ⟨fun post H => ps_xlo (by omega) ha hA hPp h (fun _ => H) (fun w => absurd w (by omega)), fun post H => py_lo hcn hn ha hA h hKc hOc (fun _ => H) (fun w => absurd w (by omega))⟩⟩
theorem rn_ei (H : rn_H n K A B C P) {o : Nat} (hpn : p < n) (h : K p = 11) (hO : gs_O K p o) (hK : K o = 8) (s : rn_St) : rn_One n oc K A B C P Q p s (p + 1) s := by
  obtain ⟨hn, hS, hd, hP, hF⟩ := H
  obtain ⟨t, ht, e1, e2⟩ := hP.2 o p hpn h hO
  have htp := gs_Tlt ht hO.1
  have hKt : ¬ K t = 10 := by
    rcases ht with ⟨h1, _⟩ | ⟨_, h2, _⟩
    · rw [h1, hK]; exact gs_e810
    · rw [h2]; exact gs_e910
  obtain ⟨f, V, O, L⟩ := s
  exact ⟨by simp, fun _ => ⟨fun post H => ps_xei (by omega) (by omega) e2 h hKt H, fun post H => py_ei hn hpn h hO hK H⟩⟩
theorem rn_eo (H : rn_H n K A B C P) {o r : Nat} (hpn : p < n) (h : K p = 11) (hO : gs_O K p o) (hK : K o = 10) (hr : r < 100) (s : rn_St) (hL : s.2.2.2 o = nI (r + 1)) : rn_One n oc K A B C P Q p s (if r = 0 then p + 1 else o + 1) (s.1, s.2.1, s.2.2.1, upd s.2.2.2 o (nI r)) := by
  obtain ⟨hn, hS, hd, hP, hF⟩ := H
  obtain ⟨t, ht, e1, e2⟩ := hP.2 o p hpn h hO
  have hop := hO.1
  have hto : t = o := by
    rcases ht with ⟨h1, _⟩ | ⟨h1, h2, h3⟩
    · exact h1
    · have := rn_el8 hS (by omega) h2 h3
      rw [hK] at this
      exact absurd this gs_e108
  rw [hto] at e2
  obtain ⟨f, V, O, L⟩ := s
  by_cases z : r = 0
  · rw [if_pos z]
    exact ⟨by simp, fun _ => ⟨fun post H => ps_xeo (by omega) (by omega) hr e2 h hK hL (fun w => absurd w (by omega)) (fun _ => H), fun post H => py_eo hn hpn h hO hK hr hL (fun w => absurd w (by omega)) (fun _ => H)⟩⟩
  · rw [if_neg z]
    exact ⟨by simp, fun _ => ⟨fun post H => ps_xeo (by omega) (by omega) hr e2 h hK hL (fun _ => H) (fun w => absurd w z), fun post H => py_eo hn hpn h hO hK hr hL (fun _ => H) (fun w => absurd w z)⟩⟩
end
end
section
/-- k steps, alike on both sides -/
def rn_Go (n : Nat) (oc : Int32) (K A B C P Q : Nat → Int32) : Nat → Nat → rn_St → Nat → rn_St → Prop
  | 0 => fun p s q s' => p = q ∧ s = s'
  | k + 1 => fun p s q s' => p < n ∧ ∃ p1 s1, rn_One n oc K A B C P Q p s p1 s1 ∧ rn_Go n oc K A B C P Q k p1 s1 q s'
section
variable {n : Nat} {oc : Int32} {K A B C P Q : Nat → Int32}
theorem rn_go1 {p q : Nat} {s s' : rn_St} (hp : p < n) (h : rn_One n oc K A B C P Q p s q s') : rn_Go n oc K A B C P Q 1 p s q s' :=
  ⟨hp, q, s', h, rfl, rfl⟩
theorem rn_goT : ∀ (k1 : Nat) {k2 p q r : Nat} {s t w : rn_St}, rn_Go n oc K A B C P Q k1 p s q t → rn_Go n oc K A B C P Q k2 q t r w → rn_Go n oc K A B C P Q (k1 + k2) p s r w := by
  intro k1
  induction k1 with
  | zero =>
    intro k2 p q r s t w h1 h2
    obtain ⟨e1, e2⟩ := h1
    subst e1; subst e2
    rw [Nat.zero_add]; exact h2
  | succ k1 ih =>
    intro k2 p q r s t w h1 h2
    obtain ⟨hp, p1, s1, h3, h4⟩ := h1
    have e : k1 + 1 + k2 = (k1 + k2) + 1 := by omega
    rw [e]
    exact ⟨hp, p1, s1, h3, ih h4 h2⟩
theorem rn_goB : ∀ (k : Nat) {p q : Nat} {s t : rn_St}, rn_Go n oc K A B C P Q k p s q t → t.1 ≤ s.1 + k := by
  intro k
  induction k with
  | zero =>
    intro p q s t h
    rw [h.2]; omega
  | succ k ih =>
    intro p q s t h
    obtain ⟨hp, p1, s1, h3, h4⟩ := h
    have h5 := ih h4
    have h6 := h3.1
    omega
end
/-- what l places from p cost at most, by depth above m -/
def rn_c (K : Nat → Int32) (m : Int) : Nat → Nat → Nat
  | 0 => fun _ => 0
  | l + 1 => fun p => 5 ^ (gs_d K p - m).toNat + rn_c K m l (p + 1)
theorem rn_cS (K : Nat → Int32) (m : Int) : ∀ a b p, rn_c K m (a + b) p = rn_c K m a p + rn_c K m b (p + a) := by
  intro a
  induction a with
  | zero => intro b p; simp [rn_c]
  | succ a ih =>
    intro b p
    have e : a + 1 + b = (a + b) + 1 := by omega
    have e' : p + (a + 1) = p + 1 + a := by omega
    rw [e, e']
    show 5 ^ (gs_d K p - m).toNat + rn_c K m (a + b) (p + 1) = 5 ^ (gs_d K p - m).toNat + rn_c K m a (p + 1) + rn_c K m b (p + 1 + a)
    rw [ih b (p + 1)]; omega
theorem rn_cM (K : Nat → Int32) (m : Int) : ∀ l p, (∀ j, p ≤ j → j < p + l → m + 1 ≤ gs_d K j) → rn_c K m l p = 5 * rn_c K (m + 1) l p := by
  intro l
  induction l with
  | zero => intro p _; rfl
  | succ l ih =>
    intro p h
    show 5 ^ (gs_d K p - m).toNat + rn_c K m l (p + 1) = 5 * (5 ^ (gs_d K p - (m + 1)).toNat + rn_c K (m + 1) l (p + 1))
    have h1 := h p (by omega) (by omega)
    have e : (gs_d K p - m).toNat = (gs_d K p - (m + 1)).toNat + 1 := by omega
    rw [e, ih (p + 1) (fun j h1 h2 => h j (by omega) (by omega)), Nat.pow_succ, Nat.mul_add]
    omega
theorem rn_cB (K : Nat → Int32) : ∀ l p, (∀ j, p ≤ j → j < p + l → gs_d K j ≤ 3) → rn_c K 0 l p ≤ 125 * l := by
  intro l
  induction l with
  | zero => intro p _; exact Nat.le_refl _
  | succ l ih =>
    intro p h
    show 5 ^ (gs_d K p - 0).toNat + rn_c K 0 l (p + 1) ≤ 125 * (l + 1)
    have h1 := h p (by omega) (by omega)
    have h2 := ih (p + 1) (fun j h1 h2 => h j (by omega) (by omega))
    have h3 : 5 ^ (gs_d K p - 0).toNat ≤ 5 ^ 3 := Nat.pow_le_pow_right (by decide) (by omega)
    have h4 : (5 : Nat) ^ 3 = 125 := by decide
    omega
/-- a stretch that opens and closes within itself -/
def rn_Seg (n : Nat) (K : Nat → Int32) (p q : Nat) : Prop := q ≤ n ∧ gs_d K q = gs_d K p ∧ (∀ j, p ≤ j → j ≤ q → gs_d K p ≤ gs_d K j) ∧ (∀ e, p ≤ e → e < q → K e = 9 → ∃ o, p ≤ o ∧ gs_O K e o)
section
variable {n : Nat} {oc : Int32} {K A B C P Q : Nat → Int32}
/-- the rounds of a loop -/
theorem rn_rnd (H : rn_H n K A B C P) {p c D : Nat} (hcn : c < n) (h : K p = 10) (hKc : K c = 11) (hOc : gs_O K c p) (body : ∀ s : rn_St, ∃ k s', k ≤ D ∧ rn_Go n oc K A B C P Q k (p + 1) s c s' ∧ ∀ j, j < p + 1 → s'.2.2.2 j = s.2.2.2 j) : ∀ r, r < 99 → ∀ s : rn_St, s.2.2.2 p = nI (r + 1) → ∃ k s', k ≤ (r + 1) * (D + 1) ∧ rn_Go n oc K A B C P Q k (p + 1) s (c + 1) s' ∧ ∀ j, j < p → s'.2.2.2 j = s.2.2.2 j := by
  intro r
  induction r with
  | zero =>
    intro hr s hL
    obtain ⟨k, s1, hk, hG, hj⟩ := body s
    have hL1 : s1.2.2.2 p = nI (0 + 1) := by rw [hj p (by omega)]; exact hL
    have h1 := rn_eo (oc := oc) (Q := Q) H hcn hKc hOc h (by omega) s1 hL1
    rw [if_pos rfl] at h1
    refine ⟨k + 1, _, by omega, rn_goT k hG (rn_go1 hcn h1), fun j h2 => ?_⟩
    show upd s1.2.2.2 p (nI 0) j = s.2.2.2 j
    rw [gs_un (by omega)]; exact hj j (by omega)
  | succ r ih =>
    intro hr s hL
    obtain ⟨k, s1, hk, hG, hj⟩ := body s
    have hL1 : s1.2.2.2 p = nI (r + 1 + 1) := by rw [hj p (by omega)]; exact hL
    have h1 := rn_eo (oc := oc) (Q := Q) H hcn hKc hOc h (by omega) s1 hL1
    rw [if_neg (by omega)] at h1
    obtain ⟨k2, s2, hk2, hG2, hj2⟩ := ih (by omega) (s1.1, s1.2.1, s1.2.2.1, upd s1.2.2.2 p (nI (r + 1))) gs_us
    have e : (r + 1 + 1) * (D + 1) = (r + 1) * (D + 1) + (D + 1) := Nat.succ_mul _ _
    refine ⟨k + (1 + k2), s2, by rw [e]; omega, rn_goT k hG (rn_goT 1 (rn_go1 hcn h1) hG2), fun j h2 => ?_⟩
    rw [hj2 j h2]
    show upd s1.2.2.2 p (nI (r + 1)) j = s.2.2.2 j
    rw [gs_un (by omega)]; exact hj j (by omega)
/-- an opening with its END: from its place behind its END -/
theorem rn_blk (H : rn_H n K A B C P) {p b : Nat} (hcn : p + 1 + b < n) (hop : K p = 8 ∨ K p = 10) (hKc : K (p + 1 + b) = 11) (hOc : gs_O K (p + 1 + b) p) (hE : ∀ e, p ≤ e → e < p + 1 + b → K e = 9 → ∃ o, p ≤ o ∧ gs_O K e o) (ih : ∀ x, x ≤ b → ∀ q, rn_Seg n K q (q + x) → ∀ s : rn_St, ∃ k s', k ≤ rn_c K (gs_d K q) x q ∧ rn_Go n oc K A B C P Q k q s (q + x) s' ∧ ∀ j, j < q → s'.2.2.2 j = s.2.2.2 j) (s : rn_St) : ∃ k s', k ≤ 1 + 5 * (rn_c K (gs_d K p + 1) b (p + 1) + 1) ∧ rn_Go n oc K A B C P Q k p s (p + 1 + b + 1) s' ∧ ∀ j, j < p → s'.2.2.2 j = s.2.2.2 j := by
  have hpn : p < n := by omega
  have hS := H.2.1
  have hd1 := gs_up hop
  have hdc := hOc.2.1
  rcases hop with h8 | h10
  · by_cases he : ∃ e, e < n ∧ K e = 9 ∧ gs_O K e p
    · obtain ⟨e, e1, e2, e3⟩ := he
      have hpe := e3.1
      have hde := e3.2.1
      have hec := gs_elc hKc hOc e3
      have hec' : e ≠ p + 1 + b := fun z => gs_e119 (by rw [← hKc, ← z]; exact e2)
      have hde1 := gs_eq (gs_nop9 e2) (by rw [e2]; exact gs_e911)
      obtain ⟨x, hx⟩ : ∃ x, e = p + 1 + x := ⟨e - p - 1, by omega⟩
      obtain ⟨y, hy⟩ : ∃ y, b = x + 1 + y := ⟨b - x - 1, by omega⟩
      have hcost := rn_cS K (gs_d K p + 1) (x + 1) y (p + 1)
      have hcost2 := rn_cS K (gs_d K p + 1) x 1 (p + 1)
      rw [← hy] at hcost
      rcases rn_ife (oc := oc) (Q := Q) H hcn h8 hKc hOc e1 e2 e3 s with h | h
      · obtain ⟨k, s1, hk, hG, hj⟩ := ih x (by omega) (p + 1) ⟨by omega, by rw [← hx]; omega, fun j j1 j2 => by have := e3.2.2 j (by omega) (by omega); omega, fun e' e4 e5 e6 => by
            obtain ⟨o, o1, o2⟩ := hE e' (by omega) (by omega) e6
            by_cases z : o = p
            · have := rn_eluq hS e1 e2 e3 (by omega) e6 (z ▸ o2); omega
            · exact ⟨o, by omega, o2⟩⟩ s
        rw [← hx] at hG
        rw [hd1] at hk
        have h2 := rn_else (oc := oc) (Q := Q) H e1 hcn e2 e3 hKc hOc s1
        exact ⟨1 + (k + 1), s1, by omega, rn_goT 1 (rn_go1 hpn h) (rn_goT k hG (rn_go1 e1 h2)), fun j hj' => hj j (by omega)⟩
      · obtain ⟨k, s1, hk, hG, hj⟩ := ih y (by omega) (e + 1) ⟨by omega, by
            have z : e + 1 + y = p + 1 + b := by omega
            rw [z]; omega, fun j j1 j2 => by have := hOc.2.2 j (by omega) (by omega); omega, fun e' e4 e5 e6 => by
            obtain ⟨o, o1, o2⟩ := hE e' (by omega) (by omega) e6
            by_cases z : o = p
            · have := rn_eluq hS e1 e2 e3 (by omega) e6 (z ▸ o2); omega
            · by_cases z1 : o = e
              · rw [z1] at o2; exact absurd e2 (gs_no9 (gs_OK o2))
              · by_cases z2 : e < o
                · exact ⟨o, by omega, o2⟩
                · exfalso
                  have w1 := o2.2.2 e (by omega) (by omega)
                  have w2 := o2.2.1
                  have w3 := hOc.2.2 o (by omega) (by omega)
                  omega⟩ s
        have z : e + 1 + y = p + 1 + b := by omega
        have z' : p + 1 + (x + 1) = e + 1 := by omega
        have z2 : gs_d K (e + 1) = gs_d K p + 1 := by omega
        rw [z] at hG
        rw [z'] at hcost
        rw [z2] at hk
        have h2 := rn_ei (oc := oc) (Q := Q) H hcn hKc hOc h8 s1
        exact ⟨1 + (k + 1), s1, by omega, rn_goT 1 (rn_go1 hpn h) (rn_goT k hG (rn_go1 hcn h2)), fun j hj' => hj j (by omega)⟩
    · have hne : ∀ e, e < n → K e = 9 → ¬ gs_O K e p := fun e a b c => he ⟨e, a, b, c⟩
      rcases rn_ifn (oc := oc) (Q := Q) H hcn h8 hKc hOc hne s with h | h
      · obtain ⟨k, s1, hk, hG, hj⟩ := ih b (by omega) (p + 1) ⟨by omega, by omega, fun j j1 j2 => by have := hOc.2.2 j (by omega) (by omega); omega, fun e' e4 e5 e6 => by
            obtain ⟨o, o1, o2⟩ := hE e' (by omega) (by omega) e6
            by_cases z : o = p
            · exact absurd (z ▸ o2) (hne e' (by omega) e6)
            · exact ⟨o, by omega, o2⟩⟩ s
        rw [hd1] at hk
        have h2 := rn_ei (oc := oc) (Q := Q) H hcn hKc hOc h8 s1
        exact ⟨1 + (k + 1), s1, by omega, rn_goT 1 (rn_go1 hpn h) (rn_goT k hG (rn_go1 hcn h2)), fun j hj' => hj j (by omega)⟩
      · exact ⟨1, s, by omega, rn_go1 hpn h, fun j _ => rfl⟩
  · have body : ∀ s : rn_St, ∃ k s', k ≤ rn_c K (gs_d K p + 1) b (p + 1) ∧ rn_Go n oc K A B C P Q k (p + 1) s (p + 1 + b) s' ∧ ∀ j, j < p + 1 → s'.2.2.2 j = s.2.2.2 j := by
      intro s
      have h1 := ih b (by omega) (p + 1) ⟨by omega, by omega, fun j j1 j2 => by have := hOc.2.2 j (by omega) (by omega); omega, fun e' e4 e5 e6 => by
            obtain ⟨o, o1, o2⟩ := hE e' (by omega) (by omega) e6
            by_cases z : o = p
            · have := rn_el8 hS (by omega) e6 o2
              rw [z, h10] at this; exact absurd this gs_e108
            · exact ⟨o, by omega, o2⟩⟩ s
      rw [hd1] at h1
      exact h1
    rcases rn_lo (oc := oc) (Q := Q) H hcn h10 hKc hOc s with ⟨L', h, hj⟩ | ⟨r, hr, h⟩
    · exact ⟨1, _, by omega, rn_go1 hpn h, hj⟩
    · obtain ⟨k, s1, hk, hG, hj⟩ := rn_rnd H hcn h10 hKc hOc body r (by omega) (s.1, s.2.1, s.2.2.1, upd s.2.2.2 p (nI (r + 1))) gs_us
      have hm : (r + 1) * (rn_c K (gs_d K p + 1) b (p + 1) + 1) ≤ 5 * (rn_c K (gs_d K p + 1) b (p + 1) + 1) := Nat.mul_le_mul_right _ (by omega)
      refine ⟨1 + k, s1, by omega, rn_goT 1 (rn_go1 hpn h) hG, fun j hj' => ?_⟩
      rw [hj j hj']
      show upd s.2.2.2 p (nI (r + 1)) j = s.2.2.2 j
      exact gs_un (by omega)
/-- a stretch is gone through, within its cost -/
theorem rn_big (H : rn_H n K A B C P) : ∀ l0 l, l ≤ l0 → ∀ p, rn_Seg n K p (p + l) → ∀ s : rn_St, ∃ k s', k ≤ rn_c K (gs_d K p) l p ∧ rn_Go n oc K A B C P Q k p s (p + l) s' ∧ ∀ j, j < p → s'.2.2.2 j = s.2.2.2 j := by
  intro l0
  induction l0 with
  | zero =>
    intro l hl p hg s
    have e : l = 0 := by omega
    subst e
    exact ⟨0, s, Nat.le_refl _, ⟨rfl, rfl⟩, fun _ _ => rfl⟩
  | succ l0 ih =>
    intro l hl p hg s
    cases l with
    | zero => exact ⟨0, s, Nat.le_refl _, ⟨rfl, rfl⟩, fun _ _ => rfl⟩
    | succ l =>
      obtain ⟨g1, g2, g3, g4⟩ := hg
      have hpn : p < n := by omega
      have e0 : (gs_d K p - gs_d K p).toNat = 0 := by omega
      have hcost : rn_c K (gs_d K p) (l + 1) p = 1 + rn_c K (gs_d K p) l (p + 1) := by
        show 5 ^ (gs_d K p - gs_d K p).toNat + rn_c K (gs_d K p) l (p + 1) = _
        rw [e0]
      by_cases hop : K p = 8 ∨ K p = 10
      · obtain ⟨c, c1, c2, c3, c4⟩ := gs_Cex (K := K) (n := p + (l + 1)) (i := p) (by omega) hop (by omega)
        obtain ⟨b, hb⟩ : ∃ b, c = p + 1 + b := ⟨c - p - 1, by omega⟩
        obtain ⟨r, hr⟩ : ∃ r, l = b + 1 + r := ⟨l - b - 1, by omega⟩
        subst hb
        have hdc := c4.2.1
        have hdc1 := gs_Oend c3 c4
        obtain ⟨k, s1, hk, hG, hj⟩ := rn_blk (oc := oc) (Q := Q) H (b := b) (by omega) hop c3 c4 (fun e a1 a2 a3 => g4 e a1 (by omega) a3) (fun x hx q => ih x (by omega) q) s
        obtain ⟨k2, s2, hk2, hG2, hj2⟩ := ih r (by omega) (p + 1 + b + 1) ⟨by omega, by
            have z : p + 1 + b + 1 + r = p + (l + 1) := by omega
            rw [z]; omega, fun j j1 j2 => by have := g3 j (by omega) (by omega); omega, fun e a1 a2 a3 => by
            obtain ⟨o, o1, o2⟩ := g4 e (by omega) (by omega) a3
            by_cases z : p + 1 + b < o
            · exact ⟨o, by omega, o2⟩
            · exfalso
              have w1 := o2.2.2 (p + 1 + b + 1) (by omega) (by omega)
              have w2 := o2.2.1
              have w3 := g3 o (by omega) (by have := o2.1; omega)
              omega⟩ s1
        have z : p + 1 + b + 1 + r = p + (l + 1) := by omega
        rw [z] at hG2
        rw [hdc1] at hk2
        have q1 := rn_cS K (gs_d K p) (b + 1) r (p + 1)
        have q2 := rn_cS K (gs_d K p) b 1 (p + 1)
        have q3 := rn_cM K (gs_d K p) b (p + 1) (fun j j1 j2 => by have := c4.2.2 j (by omega) (by omega); omega)
        have q4 : rn_c K (gs_d K p) 1 (p + 1 + b) = 5 := by
          show 5 ^ (gs_d K (p + 1 + b) - gs_d K p).toNat + 0 = 5
          have z : (gs_d K (p + 1 + b) - gs_d K p).toNat = 1 := by omega
          rw [z]
        have z' : p + 1 + (b + 1) = p + 1 + b + 1 := by omega
        rw [z', ← hr] at q1
        refine ⟨k + k2, s2, by rw [hcost]; omega, rn_goT k hG hG2, fun j hj' => ?_⟩
        rw [hj2 j (by omega)]; exact hj j hj'
      · have h11 : ¬ K p = 11 := by
          intro z
          have := gs_dn z
          have := g3 (p + 1) (by omega) (by omega)
          omega
        have h9 : ¬ K p = 9 := by
          intro z
          obtain ⟨o, o1, o2⟩ := g4 p (by omega) (by omega) z
          have := o2.1
          omega
        have hd := gs_eq hop h11
        obtain ⟨s1, h1, hL⟩ := rn_plain (oc := oc) (Q := Q) H hpn hop h9 h11 s
        obtain ⟨k, s2, hk, hG, hj⟩ := ih l (by omega) (p + 1) ⟨by omega, by
            have z : p + 1 + l = p + (l + 1) := by omega
            rw [z]; omega, fun j j1 j2 => by have := g3 j (by omega) (by omega); omega, fun e a1 a2 a3 => by
            obtain ⟨o, o1, o2⟩ := g4 e (by omega) (by omega) a3
            by_cases z : o = p
            · rw [z] at o2; exact absurd (gs_OK o2) hop
            · exact ⟨o, by omega, o2⟩⟩ s1
        have z : p + 1 + l = p + (l + 1) := by omega
        rw [z] at hG
        rw [hd] at hk
        refine ⟨1 + k, s2, by rw [hcost]; omega, rn_goT 1 (rn_go1 hpn h1) hG, fun j hj' => ?_⟩
        rw [hj j (by omega), hL]
/-- the whole program, within 5000 steps -/
theorem rn_all (H : rn_H n K A B C P) (s : rn_St) : ∃ k s', k ≤ 5000 ∧ rn_Go n oc K A B C P Q k 0 s n s' := by
  obtain ⟨hn, hS, hd, hP, hF⟩ := H
  have hg : rn_Seg n K 0 (0 + n) := by
    rw [Nat.zero_add]
    refine ⟨by omega, by rw [hd, gs_0], fun j j1 j2 => ?_, fun e a1 a2 a3 => ?_⟩
    · rw [gs_0]; exact (hS.1 j j2).1
    · obtain ⟨o, h1, _, _⟩ := hS.2 e a2 a3
      exact ⟨o, by omega, h1⟩
  obtain ⟨k, s', h1, h2, _⟩ := rn_big (oc := oc) (Q := Q) ⟨hn, hS, hd, hP, hF⟩ n n (by omega) 0 hg s
  rw [Nat.zero_add] at h2
  rw [gs_0] at h1
  have h3 := rn_cB K n 0 (fun j j1 j2 => (hS.1 j (by omega)).2)
  exact ⟨k, s', by omega, h2⟩
end
end
section
/-- a variable's number -/
def ad_v (x : Int32) : Prop := ∃ j, j < 6 ∧ x = nI j
theorem ad_in {x : Int32} (h : ad_v x) : vp_in x 6 := by
  obtain ⟨j, hj, e⟩ := h
  rw [e]; exact vp_in_nI hj (by decide)
theorem ad_x1 {post : Int32 → Prop} {x : Int32} (h : ad_v x) (H : post 1) : wpX_isVariable post x := by
  obtain ⟨j, hj, e⟩ := h
  unfold wpX_isVariable
  rw [e]
  exact br_f (nI_pos (by omega)) (br_f (nI_ge (b := 6) hj (by decide)) H)
theorem ad_x0 {post : Int32 → Prop} {x : Int32} (h : ¬ ad_v x) (H : post 0) : wpX_isVariable post x := by
  unfold wpX_isVariable
  refine br_c (fun _ => H) (fun h0 => br_c (fun _ => H) (fun h6 => absurd ?_ h))
  obtain ⟨j, hj, e⟩ := nI_of h0
  refine ⟨j, ?_, e⟩
  rw [e] at h6
  have h7 : ¬ nI 6 ≤ nI j := h6
  rw [nI_leI (by decide) hj] at h7
  omega
section
variable {v : SY}
theorem ad_y1 {post : Int32 → Prop} {x : Int32} (h : ad_v x) (H : post 1) : wpY_isVariable post v x := by
  obtain ⟨j, hj, e⟩ := h
  obtain ⟨f_n, f_printed, a_kind, a_a, a_b, a_c, a_var, a_out, a_left⟩ := v
  unfold wpY_isVariable
  dsimp only
  rw [e]
  exact br_f (nI_pos (by omega)) (br_f (nI_nlt (a := 5) (by omega) (by decide)) H)
theorem ad_y0 {post : Int32 → Prop} {x : Int32} (h : ¬ ad_v x) (H : post 0) : wpY_isVariable post v x := by
  obtain ⟨f_n, f_printed, a_kind, a_a, a_b, a_c, a_var, a_out, a_left⟩ := v
  unfold wpY_isVariable
  dsimp only
  refine br_c (fun _ => H) (fun h0 => br_c (fun _ => H) (fun h6 => absurd ?_ h))
  obtain ⟨j, hj, e⟩ := nI_of h0
  refine ⟨j, ?_, e⟩
  rw [e] at h6
  have h7 : ¬ nI 5 < nI j := h6
  rw [nI_ltI (by decide) hj] at h7
  omega
end
theorem ad_641 {post : Int32 → Prop} {x : Int32} (h : ad_v x) (H : post 1) : wX_isStatement_64 post x := by
  unfold wX_isStatement_64; exact ad_x1 h ⟨sn_b1, H⟩
theorem ad_640 {post : Int32 → Prop} {x : Int32} (h : ¬ ad_v x) (H : post 0) : wX_isStatement_64 post x := by
  unfold wX_isStatement_64; exact ad_x0 h ⟨sn_b0, H⟩
theorem ad_891 {post : Int32 → Prop} {x y z : Int32} (h1 : ad_v x) (h2 : ad_v y) (h3 : ad_v z) (H : post 1) : wX_isStatement_89 post x y z := by
  unfold wX_isStatement_89
  exact ad_x1 h1 (br_f ys_1n0 (ad_x1 h2 (br_f ys_1n0 (ad_x1 h3 (br_f ys_1n0 H)))))
theorem ad_890 {post : Int32 → Prop} {x y z : Int32} (h : ¬ (ad_v x ∧ ad_v y ∧ ad_v z)) (H : post 0) : wX_isStatement_89 post x y z := by
  unfold wX_isStatement_89
  by_cases h1 : ad_v x
  · by_cases h2 : ad_v y
    · exact ad_x1 h1 (br_f ys_1n0 (ad_x1 h2 (br_f ys_1n0 (ad_x0 (fun h3 => h ⟨h1, h2, h3⟩) (br_t rfl H)))))
    · exact ad_x1 h1 (br_f ys_1n0 (ad_x0 h2 (br_t rfl H)))
  · exact ad_x0 h1 (br_t rfl H)
/-- what is owed of a kind: both answer 1 and it fits, or both answer 0 -/
def ad_R (v : SY) (k x y z : Int32) : Prop :=
  (rn_F k x y z ∧ (∀ post : Int32 → Prop, post 1 → wpX_isStatement post k x y z) ∧ (∀ post : Int32 → Prop, post 1 → wpY_fits post v k x y z)) ∨ ((∀ post : Int32 → Prop, post 0 → wpX_isStatement post k x y z) ∧ (∀ post : Int32 → Prop, post 0 → wpY_fits post v k x y z))
section
variable {g f : Int32} {K A B C V O L : Nat → Int32} {x y z : Int32}
theorem ad_k0 : ad_R (g, f, K, A, B, C, V, O, L) 0 x y z := by
  by_cases h : ad_v x
  · refine Or.inl ⟨⟨0, by omega, by decide, fun _ _ => h, fun a b => by omega, fun a b => by omega⟩, fun post H => ?_, fun post H => ?_⟩
    · unfold wpX_isStatement; exact br_f (by decide) (br_f (by decide) (br_t rfl (ad_641 h H)))
    · unfold wpY_fits; exact br_f (by decide) (br_t (by decide) (br_f (by decide) (br_f (by decide) (ad_y1 h (br_f ys_1n0 (br_f (by decide) (br_t (by decide) H)))))))
  · refine Or.inr ⟨fun post H => ?_, fun post H => ?_⟩
    · unfold wpX_isStatement; exact br_f (by decide) (br_f (by decide) (br_t rfl (ad_640 h H)))
    · unfold wpY_fits; exact br_f (by decide) (br_t (by decide) (br_f (by decide) (br_f (by decide) (ad_y0 h (br_t rfl H)))))
theorem ad_k1 : ad_R (g, f, K, A, B, C, V, O, L) 1 x y z := by
  by_cases h : ad_v x
  · by_cases h' : ad_v y
    · refine Or.inl ⟨⟨1, by omega, by decide, fun _ _ => h, fun _ _ => h', fun a b => by omega⟩, fun post H => ?_, fun post H => ?_⟩
      · unfold wpX_isStatement; exact br_f (by decide) (br_f (by decide) (br_f (by decide) (br_t rfl (ad_x1 h (br_f ys_1n0 (ad_x1 h' (br_f ys_1n0 H)))))))
      · unfold wpY_fits; exact br_f (by decide) (br_t (by decide) (br_f (by decide) (br_f (by decide) (ad_y1 h (br_f ys_1n0 (br_t rfl (ad_y1 h' ⟨sn_b1, H⟩)))))))
    · refine Or.inr ⟨fun post H => ?_, fun post H => ?_⟩
      · unfold wpX_isStatement; exact br_f (by decide) (br_f (by decide) (br_f (by decide) (br_t rfl (ad_x1 h (br_f ys_1n0 (ad_x0 h' (br_t rfl H)))))))
      · unfold wpY_fits; exact br_f (by decide) (br_t (by decide) (br_f (by decide) (br_f (by decide) (ad_y1 h (br_f ys_1n0 (br_t rfl (ad_y0 h' ⟨sn_b0, H⟩)))))))
  · refine Or.inr ⟨fun post H => ?_, fun post H => ?_⟩
    · unfold wpX_isStatement; exact br_f (by decide) (br_f (by decide) (br_f (by decide) (br_t rfl (ad_x0 h (br_t rfl H)))))
    · unfold wpY_fits; exact br_f (by decide) (br_t (by decide) (br_f (by decide) (br_f (by decide) (ad_y0 h (br_t rfl H)))))
theorem ad_k2 : ad_R (g, f, K, A, B, C, V, O, L) 2 x y z := by
  by_cases h : ad_v x ∧ ad_v y ∧ ad_v z
  · obtain ⟨h1, h2, h3⟩ := h
    refine Or.inl ⟨⟨2, by omega, by decide, fun _ _ => h1, fun _ _ => h2, fun _ _ => h3⟩, fun post H => ?_, fun post H => ?_⟩
    · unfold wpX_isStatement; exact br_f (by decide) (br_f (by decide) (br_f (by decide) (br_f (by decide) (br_t rfl (ad_891 h1 h2 h3 H)))))
    · unfold wpY_fits; exact br_f (by decide) (br_t (by decide) (br_f (by decide) (br_f (by decide) (ad_y1 h1 (br_f ys_1n0 (br_f (by decide) (br_f (by decide) (br_f (by decide) (ad_y1 h2 (br_f ys_1n0 (ad_y1 h3 (br_f ys_1n0 H))))))))))))
  · refine Or.inr ⟨fun post H => ?_, fun post H => ?_⟩
    · unfold wpX_isStatement; exact br_f (by decide) (br_f (by decide) (br_f (by decide) (br_f (by decide) (br_t rfl (ad_890 h H)))))
    · unfold wpY_fits
      refine br_f (by decide) (br_t (by decide) (br_f (by decide) (br_f (by decide) (?_))))
      by_cases h1 : ad_v x
      · refine ad_y1 h1 (br_f ys_1n0 (br_f (by decide) (br_f (by decide) (br_f (by decide) ?_))))
        by_cases h2 : ad_v y
        · exact ad_y1 h2 (br_f ys_1n0 (ad_y0 (fun h3 => h ⟨h1, h2, h3⟩) (br_t rfl H)))
        · exact ad_y0 h2 (br_t rfl H)
      · exact ad_y0 h1 (br_t rfl H)
theorem ad_k3 : ad_R (g, f, K, A, B, C, V, O, L) 3 x y z := by
  by_cases h : ad_v x ∧ ad_v y ∧ ad_v z
  · obtain ⟨h1, h2, h3⟩ := h
    refine Or.inl ⟨⟨3, by omega, by decide, fun _ _ => h1, fun _ _ => h2, fun _ _ => h3⟩, fun post H => ?_, fun post H => ?_⟩
    · unfold wpX_isStatement; exact br_f (by decide) (br_f (by decide) (br_f (by decide) (br_f (by decide) (br_f (by decide) (br_t rfl (ad_891 h1 h2 h3 H))))))
    · unfold wpY_fits; exact br_f (by decide) (br_t (by decide) (br_f (by decide) (br_f (by decide) (ad_y1 h1 (br_f ys_1n0 (br_f (by decide) (br_f (by decide) (br_f (by decide) (ad_y1 h2 (br_f ys_1n0 (ad_y1 h3 (br_f ys_1n0 H))))))))))))
  · refine Or.inr ⟨fun post H => ?_, fun post H => ?_⟩
    · unfold wpX_isStatement; exact br_f (by decide) (br_f (by decide) (br_f (by decide) (br_f (by decide) (br_f (by decide) (br_t rfl (ad_890 h H))))))
    · unfold wpY_fits
      refine br_f (by decide) (br_t (by decide) (br_f (by decide) (br_f (by decide) (?_))))
      by_cases h1 : ad_v x
      · refine ad_y1 h1 (br_f ys_1n0 (br_f (by decide) (br_f (by decide) (br_f (by decide) ?_))))
        by_cases h2 : ad_v y
        · exact ad_y1 h2 (br_f ys_1n0 (ad_y0 (fun h3 => h ⟨h1, h2, h3⟩) (br_t rfl H)))
        · exact ad_y0 h2 (br_t rfl H)
      · exact ad_y0 h1 (br_t rfl H)
theorem ad_k4 : ad_R (g, f, K, A, B, C, V, O, L) 4 x y z := by
  by_cases h : ad_v x ∧ ad_v y ∧ ad_v z
  · obtain ⟨h1, h2, h3⟩ := h
    refine Or.inl ⟨⟨4, by omega, by decide, fun _ _ => h1, fun _ _ => h2, fun _ _ => h3⟩, fun post H => ?_, fun post H => ?_⟩
    · unfold wpX_isStatement; exact br_f (by decide) (br_f (by decide) (br_f (by decide) (br_f (by decide) (br_f (by decide) (br_f (by decide) (br_t rfl (ad_891 h1 h2 h3 H)))))))
    · unfold wpY_fits; exact br_f (by decide) (br_t (by decide) (br_f (by decide) (br_f (by decide) (ad_y1 h1 (br_f ys_1n0 (br_f (by decide) (br_f (by decide) (br_f (by decide) (ad_y1 h2 (br_f ys_1n0 (ad_y1 h3 (br_f ys_1n0 H))))))))))))
  · refine Or.inr ⟨fun post H => ?_, fun post H => ?_⟩
    · unfold wpX_isStatement; exact br_f (by decide) (br_f (by decide) (br_f (by decide) (br_f (by decide) (br_f (by decide) (br_f (by decide) (br_t rfl (ad_890 h H)))))))
    · unfold wpY_fits
      refine br_f (by decide) (br_t (by decide) (br_f (by decide) (br_f (by decide) (?_))))
      by_cases h1 : ad_v x
      · refine ad_y1 h1 (br_f ys_1n0 (br_f (by decide) (br_f (by decide) (br_f (by decide) ?_))))
        by_cases h2 : ad_v y
        · exact ad_y1 h2 (br_f ys_1n0 (ad_y0 (fun h3 => h ⟨h1, h2, h3⟩) (br_t rfl H)))
        · exact ad_y0 h2 (br_t rfl H)
      · exact ad_y0 h1 (br_t rfl H)
theorem ad_k5 : ad_R (g, f, K, A, B, C, V, O, L) 5 x y z := by
  by_cases h : ad_v x ∧ ad_v y ∧ ad_v z
  · obtain ⟨h1, h2, h3⟩ := h
    refine Or.inl ⟨⟨5, by omega, by decide, fun _ _ => h1, fun _ _ => h2, fun _ _ => h3⟩, fun post H => ?_, fun post H => ?_⟩
    · unfold wpX_isStatement; exact br_f (by decide) (br_f (by decide) (br_f (by decide) (br_f (by decide) (br_f (by decide) (br_f (by decide) (br_f (by decide) (br_t rfl (ad_891 h1 h2 h3 H))))))))
    · unfold wpY_fits; exact br_f (by decide) (br_t (by decide) (br_f (by decide) (br_f (by decide) (ad_y1 h1 (br_f ys_1n0 (br_f (by decide) (br_f (by decide) (br_f (by decide) (ad_y1 h2 (br_f ys_1n0 (ad_y1 h3 (br_f ys_1n0 H))))))))))))
  · refine Or.inr ⟨fun post H => ?_, fun post H => ?_⟩
    · unfold wpX_isStatement; exact br_f (by decide) (br_f (by decide) (br_f (by decide) (br_f (by decide) (br_f (by decide) (br_f (by decide) (br_f (by decide) (br_t rfl (ad_890 h H))))))))
    · unfold wpY_fits
      refine br_f (by decide) (br_t (by decide) (br_f (by decide) (br_f (by decide) (?_))))
      by_cases h1 : ad_v x
      · refine ad_y1 h1 (br_f ys_1n0 (br_f (by decide) (br_f (by decide) (br_f (by decide) ?_))))
        by_cases h2 : ad_v y
        · exact ad_y1 h2 (br_f ys_1n0 (ad_y0 (fun h3 => h ⟨h1, h2, h3⟩) (br_t rfl H)))
        · exact ad_y0 h2 (br_t rfl H)
      · exact ad_y0 h1 (br_t rfl H)
theorem ad_k6 : ad_R (g, f, K, A, B, C, V, O, L) 6 x y z := by
  by_cases h : ad_v x ∧ ad_v y ∧ ad_v z
  · obtain ⟨h1, h2, h3⟩ := h
    refine Or.inl ⟨⟨6, by omega, by decide, fun _ _ => h1, fun _ _ => h2, fun _ _ => h3⟩, fun post H => ?_, fun post H => ?_⟩
    · unfold wpX_isStatement; exact br_f (by decide) (br_f (by decide) (br_f (by decide) (br_f (by decide) (br_f (by decide) (br_f (by decide) (br_f (by decide) (br_f (by decide) (br_t rfl (ad_891 h1 h2 h3 H)))))))))
    · unfold wpY_fits; exact br_f (by decide) (br_t (by decide) (br_f (by decide) (br_f (by decide) (ad_y1 h1 (br_f ys_1n0 (br_f (by decide) (br_f (by decide) (br_f (by decide) (ad_y1 h2 (br_f ys_1n0 (ad_y1 h3 (br_f ys_1n0 H))))))))))))
  · refine Or.inr ⟨fun post H => ?_, fun post H => ?_⟩
    · unfold wpX_isStatement; exact br_f (by decide) (br_f (by decide) (br_f (by decide) (br_f (by decide) (br_f (by decide) (br_f (by decide) (br_f (by decide) (br_f (by decide) (br_t rfl (ad_890 h H)))))))))
    · unfold wpY_fits
      refine br_f (by decide) (br_t (by decide) (br_f (by decide) (br_f (by decide) (?_))))
      by_cases h1 : ad_v x
      · refine ad_y1 h1 (br_f ys_1n0 (br_f (by decide) (br_f (by decide) (br_f (by decide) ?_))))
        by_cases h2 : ad_v y
        · exact ad_y1 h2 (br_f ys_1n0 (ad_y0 (fun h3 => h ⟨h1, h2, h3⟩) (br_t rfl H)))
        · exact ad_y0 h2 (br_t rfl H)
      · exact ad_y0 h1 (br_t rfl H)
theorem ad_k7 : ad_R (g, f, K, A, B, C, V, O, L) 7 x y z := by
  by_cases h : ad_v x
  · refine Or.inl ⟨⟨7, by omega, by decide, fun _ _ => h, fun a b => by omega, fun a b => by omega⟩, fun post H => ?_, fun post H => ?_⟩
    · unfold wpX_isStatement; exact br_f (by decide) (br_f (by decide) (br_f (by decide) (br_f (by decide) (br_f (by decide) (br_f (by decide) (br_f (by decide) (br_f (by decide) (br_f (by decide) (br_t rfl (ad_641 h H))))))))))
    · unfold wpY_fits; exact br_f (by decide) (br_t (by decide) (br_f (by decide) (br_f (by decide) (ad_y1 h (br_f ys_1n0 (br_f (by decide) (br_f (by decide) (br_t (by decide) H))))))))
  · refine Or.inr ⟨fun post H => ?_, fun post H => ?_⟩
    · unfold wpX_isStatement; exact br_f (by decide) (br_f (by decide) (br_f (by decide) (br_f (by decide) (br_f (by decide) (br_f (by decide) (br_f (by decide) (br_f (by decide) (br_f (by decide) (br_t rfl (ad_640 h H))))))))))
    · unfold wpY_fits; exact br_f (by decide) (br_t (by decide) (br_f (by decide) (br_f (by decide) (ad_y0 h (br_t rfl H)))))
theorem ad_k8 : ad_R (g, f, K, A, B, C, V, O, L) 8 x y z := by
  by_cases h : ad_v x
  · refine Or.inl ⟨⟨8, by omega, by decide, fun _ _ => h, fun a b => by omega, fun a b => by omega⟩, fun post H => ?_, fun post H => ?_⟩
    · unfold wpX_isStatement; exact br_f (by decide) (br_f (by decide) (br_f (by decide) (br_f (by decide) (br_f (by decide) (br_f (by decide) (br_f (by decide) (br_f (by decide) (br_f (by decide) (br_f (by decide) (br_t rfl (ad_641 h H)))))))))))
    · unfold wpY_fits; exact br_f (by decide) (br_t (by decide) (br_f (by decide) (br_f (by decide) (ad_y1 h (br_f ys_1n0 (br_f (by decide) (br_f (by decide) (br_t (by decide) H))))))))
  · refine Or.inr ⟨fun post H => ?_, fun post H => ?_⟩
    · unfold wpX_isStatement; exact br_f (by decide) (br_f (by decide) (br_f (by decide) (br_f (by decide) (br_f (by decide) (br_f (by decide) (br_f (by decide) (br_f (by decide) (br_f (by decide) (br_f (by decide) (br_t rfl (ad_640 h H)))))))))))
    · unfold wpY_fits; exact br_f (by decide) (br_t (by decide) (br_f (by decide) (br_f (by decide) (ad_y0 h (br_t rfl H)))))
theorem ad_k9 : ad_R (g, f, K, A, B, C, V, O, L) 9 x y z := by
  refine Or.inl ⟨⟨9, by omega, by decide, fun a b => by omega, fun a b => by omega, fun a b => by omega⟩, fun post H => ?_, fun post H => ?_⟩
  · unfold wpX_isStatement; exact br_f (by decide) (br_f (by decide) (br_f (by decide) (br_f (by decide) (br_f (by decide) (br_f (by decide) (br_f (by decide) (br_f (by decide) (br_f (by decide) (br_f (by decide) (br_f (by decide) (br_t rfl (H))))))))))))
  · unfold wpY_fits; exact br_f (by decide) (br_t (by decide) (br_t rfl H))
theorem ad_k10 : ad_R (g, f, K, A, B, C, V, O, L) 10 x y z := by
  by_cases h : ad_v x
  · refine Or.inl ⟨⟨10, by omega, by decide, fun _ _ => h, fun a b => by omega, fun a b => by omega⟩, fun post H => ?_, fun post H => ?_⟩
    · unfold wpX_isStatement; exact br_f (by decide) (br_f (by decide) (br_f (by decide) (br_f (by decide) (br_f (by decide) (br_f (by decide) (br_f (by decide) (br_f (by decide) (br_f (by decide) (br_f (by decide) (br_f (by decide) (br_f (by decide) (br_t rfl (by obtain ⟨j, hj, e⟩ := h; rw [e]; exact br_f (nI_pos (by omega)) (br_f (nI_nlt (a := 5) (by omega) (by decide)) H))))))))))))))
    · unfold wpY_fits; exact br_f (by decide) (br_t (by decide) (br_f (by decide) (br_f (by decide) (ad_y1 h (br_f ys_1n0 (br_f (by decide) (br_f (by decide) (br_t (by decide) H))))))))
  · refine Or.inr ⟨fun post H => ?_, fun post H => ?_⟩
    · unfold wpX_isStatement; exact br_f (by decide) (br_f (by decide) (br_f (by decide) (br_f (by decide) (br_f (by decide) (br_f (by decide) (br_f (by decide) (br_f (by decide) (br_f (by decide) (br_f (by decide) (br_f (by decide) (br_f (by decide) (br_t rfl (br_c (fun _ => H) (fun h0 => br_c (fun _ => H) (fun h6 => absurd (by
      obtain ⟨j, hj, e⟩ := nI_of h0
      refine ⟨j, ?_, e⟩
      rw [e] at h6
      have h7 : ¬ nI 5 < nI j := h6
      rw [nI_ltI (by decide) hj] at h7
      omega) h)))))))))))))))
    · unfold wpY_fits; exact br_f (by decide) (br_t (by decide) (br_f (by decide) (br_f (by decide) (ad_y0 h (br_t rfl H)))))
theorem ad_k11 : ad_R (g, f, K, A, B, C, V, O, L) 11 x y z := by
  refine Or.inl ⟨⟨11, by omega, by decide, fun a b => by omega, fun a b => by omega, fun a b => by omega⟩, fun post H => ?_, fun post H => ?_⟩
  · unfold wpX_isStatement; exact br_f (by decide) (br_f (by decide) (br_f (by decide) (br_f (by decide) (br_f (by decide) (br_f (by decide) (br_f (by decide) (br_f (by decide) (br_f (by decide) (br_f (by decide) (br_f (by decide) (br_f (by decide) (br_f (by decide) (br_t rfl (H))))))))))))))
  · unfold wpY_fits; exact br_f (by decide) (br_t (by decide) (br_f (by decide) (br_t rfl H)))
theorem ad_all (k : Int32) : ad_R (g, f, K, A, B, C, V, O, L) k x y z := by
  by_cases h0 : k < 0
  · refine Or.inr ⟨fun post H => ?_, fun post H => ?_⟩
    · unfold wpX_isStatement; exact br_t h0 H
    · unfold wpY_fits; exact br_t h0 H
  · obtain ⟨j, hj, e⟩ := nI_of h0
    by_cases h11 : 11 < j
    · refine Or.inr ⟨fun post H => ?_, fun post H => ?_⟩
      · unfold wpX_isStatement; rw [e]; exact br_f (nI_pos hj) (br_t (nI_lt (a := 11) h11 hj) H)
      · unfold wpY_fits; rw [e]; exact br_f (nI_pos hj) (br_f (nI_ge (a := 11) h11 hj) H)
    · have c0 : j = 0 ∨ j = 1 ∨ j = 2 ∨ j = 3 ∨ j = 4 ∨ j = 5 ∨ j = 6 ∨ j = 7 ∨ j = 8 ∨ j = 9 ∨ j = 10 ∨ j = 11 := by omega
      rcases c0 with c | c | c | c | c | c | c | c | c | c | c | c <;> rw [e, c]
      · exact ad_k0
      · exact ad_k1
      · exact ad_k2
      · exact ad_k3
      · exact ad_k4
      · exact ad_k5
      · exact ad_k6
      · exact ad_k7
      · exact ad_k8
      · exact ad_k9
      · exact ad_k10
      · exact ad_k11
end
end
section
section
variable {n : Nat} {oc : Int32} {K A B C P Q : Nat → Int32}
theorem rr_x (hn : n ≤ 40) (post : Int32 → SX → Prop) : ∀ k p (s s' : rn_St), rn_Go n oc K A B C P Q k p s n s' → ∀ x, x + k ≤ 5000 → s.1 ≤ x → post (nI s'.1) (nI n, nI s'.1, oc, K, A, B, C, s'.2.1, s'.2.2.1, P, Q, s'.2.2.2) → wX_run_19 post (k + 1) (nI p) (nI x) (nI n) (nI s.1) oc K A B C s.2.1 s.2.2.1 P Q s.2.2.2 := by
  intro k
  induction k with
  | zero =>
    intro p s s' hG x hx hs H
    obtain ⟨e1, e2⟩ := hG
    subst e1; subst e2
    unfold wX_run_19
    exact br_f (nI_ge (b := 1000000) (by omega) (by decide)) (br_t (nI_le (by omega) (by omega)) H)
  | succ k ih =>
    intro p s s' hG x hx hs H
    obtain ⟨hp, p1, s1, h1, h2⟩ := hG
    unfold wX_run_19
    refine br_f (nI_ge (b := 1000000) (by omega) (by decide)) (br_f (nI_ge hp (by omega)) ((h1.2 (by omega)).1 _ ?_))
    exact nm_r (nI_1 x) (ih p1 s1 s' h2 (x + 1) (by omega) (by have := h1.1; omega) H)
theorem rr_y (hn : n ≤ 40) (post : Int32 → SY → Prop) : ∀ k p (s s' : rn_St), rn_Go n oc K A B C P Q k p s n s' → ∀ x, x + k ≤ 5000 → s.1 ≤ x → post (nI s'.1) (nI n, nI s'.1, K, A, B, C, s'.2.1, s'.2.2.1, s'.2.2.2) → wY_run_19 post (k + 1) (nI p) (nI x) (nI n) (nI s.1) K A B C s.2.1 s.2.2.1 s.2.2.2 := by
  intro k
  induction k with
  | zero =>
    intro p s s' hG x hx hs H
    obtain ⟨e1, e2⟩ := hG
    subst e1; subst e2
    unfold wY_run_19
    exact br_c (fun _ => H) (fun _ => br_t (nI_le (by omega) (by omega)) H)
  | succ k ih =>
    intro p s s' hG x hx hs H
    obtain ⟨hp, p1, s1, h1, h2⟩ := hG
    unfold wY_run_19
    refine br_f (nI_ge (b := 5000) (by omega) (by decide)) (br_f (nI_ge hp (by omega)) ((h1.2 (by omega)).2 _ ?_))
    exact nm_r (nI_1 x) (ih p1 s1 s' h2 (x + 1) (by omega) (by have := h1.1; omega) H)
end
section
variable {oc : Int32} {K A B C O P Q L : Nat → Int32}
theorem rr_clr : ∀ t j (V : Nat → Int32), j + t = 6 → ∃ V' : Nat → Int32, (∀ post : SX → Prop, post (0, 0, oc, K, A, B, C, V', O, P, Q, L) → wX_clear_12 post 0 0 oc (t + 1) (nI j) K A B C V O P Q L) ∧ (∀ post : SY → Prop, post (0, 0, K, A, B, C, V', O, L) → wY_clear_12 post 0 0 (t + 1) (nI j) K A B C V O L) := by
  intro t
  induction t with
  | zero =>
    intro j V hj
    have h : nI 6 ≤ nI j := nI_le (by omega) (by omega)
    refine ⟨V, fun post H => ?_, fun post H => ?_⟩
    · unfold wX_clear_12; exact br_t h H
    · unfold wY_clear_12; exact br_t h H
  | succ t ih =>
    intro j V hj
    have h : ¬ nI 6 ≤ nI j := nI_ge (by omega) (by omega)
    have hc : (nI j).toNatClampNeg = j := nI_clamp (by omega)
    have hi : vp_in (nI j) 6 := vp_in_nI (by omega) (by decide)
    obtain ⟨V', h1, h2⟩ := ih (j + 1) (upd V j 0) (by omega)
    refine ⟨V', fun post H => ?_, fun post H => ?_⟩
    · unfold wX_clear_12
      rw [hc]
      exact br_f h ⟨hi, nm_e (nm_r (nI_1 j) (h1 post H))⟩
    · unfold wY_clear_12
      rw [hc]
      exact br_f h ⟨hi, nm_e (nm_r (nI_1 j) (h2 post H))⟩
end
end
section
/-- both sides hold the same statements, variables, output and passes left; every statement fits -/
def i_Rel (_ : Nat) (u : SX) (v : SY) : Prop := ∃ (n q : Nat) (oc : Int32) (K A B C V O P Q L : Nat → Int32), u = (nI n, nI q, oc, K, A, B, C, V, O, P, Q, L) ∧ v = (nI n, nI q, K, A, B, C, V, O, L) ∧ n ≤ 40 ∧ q ≤ 5000 ∧ ∀ i, i < n → rn_F (K i) (A i) (B i) (C i)
theorem i_up {k : Nat} {u : SX} {v : SY} (h : i_Rel k u v) : i_Rel (k + 5) u v := h
theorem i_vc0 : wpX_init (fun u => wpY_init (fun v => i_Rel 0 u v)) :=
  ⟨0, 0, 0, fun _ => 0, fun _ => 0, fun _ => 0, fun _ => 0, fun _ => 0, fun _ => 0, fun _ => 0, fun _ => 0, fun _ => 0, rfl, rfl, by omega, by omega, fun i hi => absurd hi (by omega)⟩
theorem ow_F {n : Nat} {K A B C : Nat → Int32} {a b c d : Int32} (hF : ∀ i, i < n → rn_F (K i) (A i) (B i) (C i)) (h : rn_F a b c d) : ∀ i, i < n + 1 → rn_F (upd K n a i) (upd A n b i) (upd B n c i) (upd C n d i) := by
  intro i hi
  by_cases e : i = n
  · rw [e, gs_us, gs_us, gs_us, gs_us]; exact h
  · rw [gs_un e, gs_un e, gs_un e, gs_un e]; exact hF i (by omega)
theorem i_vc_add {k : Nat} {u : SX} {v : SY} (I : i_Rel k u v) (hk : k + 5 ≤ 2560) (v1 : Int32) (v2 : Int32) (v3 : Int32) (v4 : Int32) : wpX_add (fun r u' => wpY_add (fun r' v' => r' = r ∧ i_Rel (k + 5) u' v') v v1 v2 v3 v4) u v1 v2 v3 v4 := by
  obtain ⟨n, q, oc, K, A, B, C, V, O, P, Q, L, rfl, rfl, hn, hq, hF⟩ := I
  unfold wpX_add wpY_add
  dsimp only
  by_cases h : n < 40
  · have hi : vp_in (nI n) 40 := vp_in_nI h (by decide)
    have hc : (nI n).toNatClampNeg = n := nI_clamp (by omega)
    have hne : ¬ nI n = 40 := fun z => by
      have z' : nI n = nI 40 := z
      rw [nI_eq (by omega) (by decide)] at z'
      omega
    rw [hc]
    refine br_t (nI_lt (b := 40) h (by decide)) ?_
    rcases ad_all (g := nI n) (f := nI q) (K := K) (A := A) (B := B) (C := C) (V := V) (O := O) (L := L) (x := v2) (y := v3) (z := v4) v1 with ⟨hf, hX, hY⟩ | ⟨hX, hY⟩
    · refine hX _ (br_f ys_1n0 ⟨hi, nm_e ⟨hi, nm_e ⟨hi, nm_e ⟨hi, nm_e (nm_r (nI_1 n) (br_f hne ?_))⟩⟩⟩⟩)
      refine hY _ (br_f ys_1n0 ⟨hi, nm_e ⟨hi, nm_e ⟨hi, nm_e ⟨hi, nm_e (nm_r (nI_1 n) ⟨rfl, ?_⟩)⟩⟩⟩⟩)
      exact ⟨n + 1, q, oc, _, _, _, _, V, O, P, Q, L, rfl, rfl, by omega, hq, ow_F hF hf⟩
    · exact hX _ (br_t rfl (br_f hne (hY _ (br_t rfl ⟨rfl, n, q, oc, K, A, B, C, V, O, P, Q, L, rfl, rfl, hn, hq, hF⟩))))
  · have e : n = 40 := by omega
    subst e
    exact br_f (nI_nlt (b := 40) (by omega) (by decide)) (br_t rfl ⟨rfl, 40, q, oc, K, A, B, C, V, O, P, Q, L, rfl, rfl, hn, hq, hF⟩)
theorem i_vc_retract {k : Nat} {u : SX} {v : SY} (I : i_Rel k u v) (hk : k + 5 ≤ 2560) : wpX_retract (fun r u' => wpY_retract (fun r' v' => r' = r ∧ i_Rel (k + 5) u' v') v) u := by
  obtain ⟨n, q, oc, K, A, B, C, V, O, P, Q, L, rfl, rfl, hn, hq, hF⟩ := I
  unfold wpX_retract wpY_retract
  dsimp only
  cases n with
  | zero => exact br_t rfl (br_t rfl ⟨rfl, 0, q, oc, K, A, B, C, V, O, P, Q, L, rfl, rfl, hn, hq, hF⟩)
  | succ n =>
    have hne : ¬ nI (n + 1) = 0 := nI_ne0 (by omega) (by omega)
    exact br_f hne (nm_r (nI_pred n) (br_f hne (nm_r (nI_pred n) ⟨rfl, n, q, oc, K, A, B, C, V, O, P, Q, L, rfl, rfl, by omega, hq, fun i hi => hF i (by omega)⟩)))
theorem i_vc_sound {k : Nat} {u : SX} {v : SY} (I : i_Rel k u v) (hk : k + 5 ≤ 2560) : wpX_sound (fun r u' => wpY_sound (fun r' => r' = r ∧ i_Rel (k + 5) u' v) v) u := by
  obtain ⟨n, q, oc, K, A, B, C, V, O, P, Q, L, rfl, rfl, hn, hq, hF⟩ := I
  unfold wpX_sound
  dsimp only
  refine sn_x hn _ (fun hS hd oc P Q hP => ?_) (fun hno oc P Q => ?_) oc P Q
  · refine ⟨sn_b1, sn_y hn _ (fun _ _ => ?_) (fun h => absurd ⟨hS, hd⟩ h)⟩
    exact ⟨rfl, n, q, oc, K, A, B, C, V, O, P, Q, L, rfl, rfl, hn, hq, hF⟩
  · refine ⟨sn_b0, sn_y hn _ (fun hS hd => absurd ⟨hS, hd⟩ hno) (fun _ => ?_)⟩
    exact ⟨rfl, n, q, oc, K, A, B, C, V, O, P, Q, L, rfl, rfl, hn, hq, hF⟩
theorem i_vc_put {k : Nat} {u : SX} {v : SY} (I : i_Rel k u v) (hk : k + 5 ≤ 2560) (v1 : Int32) (v2 : Int32) : wpX_put (fun r u' => wpY_put (fun r' v' => r' = r ∧ i_Rel (k + 5) u' v') v v1 v2) u v1 v2 := by
  obtain ⟨n, q, oc, K, A, B, C, V, O, P, Q, L, rfl, rfl, hn, hq, hF⟩ := I
  unfold wpX_put wpY_put
  dsimp only
  by_cases h : ad_v v1
  · refine ad_x1 h (br_f ys_1n0 ⟨ad_in h, nm_e (ad_y1 h (br_f ys_1n0 ⟨ad_in h, nm_e ⟨rfl, ?_⟩⟩))⟩)
    exact ⟨n, q, oc, K, A, B, C, _, O, P, Q, L, rfl, rfl, hn, hq, hF⟩
  · exact ad_x0 h (br_t rfl (ad_y0 h (br_t rfl ⟨rfl, n, q, oc, K, A, B, C, V, O, P, Q, L, rfl, rfl, hn, hq, hF⟩)))
theorem i_vc_run {k : Nat} {u : SX} {v : SY} (I : i_Rel k u v) (hk : k + 5 ≤ 2560) : wpX_run (fun r u' => wpY_run (fun r' v' => r' = r ∧ i_Rel (k + 5) u' v') v) u := by
  obtain ⟨n, q, oc, K, A, B, C, V, O, P, Q, L, rfl, rfl, hn, hq, hF⟩ := I
  unfold wpX_run wpY_run
  dsimp only
  refine sn_x hn _ (fun hS hd oc P Q hP => ?_) (fun hno oc P Q => ?_) oc P Q
  · obtain ⟨t, s, ht, hG⟩ := rn_all (oc := oc) (Q := Q) (A := A) (B := B) (C := C) ⟨hn, hS, hd, hP, hF⟩ (0, V, O, L)
    have hb := rn_goB t hG
    refine br_f ys_1n0 ⟨_, rr_x hn _ t 0 (0, V, O, L) s hG 0 (by omega) (Nat.le_refl _) (sn_y hn _ (fun _ _ => ?_) (fun h => absurd ⟨hS, hd⟩ h))⟩
    refine br_f ys_1n0 ⟨_, rr_y hn _ t 0 (0, V, O, L) s hG 0 (by omega) (Nat.le_refl _) ?_⟩
    exact ⟨rfl, n, s.1, oc, K, A, B, C, s.2.1, s.2.2.1, P, Q, s.2.2.2, rfl, rfl, hn, by have : (0, V, O, L).1 = 0 := rfl
                                                                                        omega, hF⟩
  · refine br_t rfl (sn_y hn _ (fun hS hd => absurd ⟨hS, hd⟩ hno) (fun _ => br_t rfl ?_))
    exact ⟨rfl, n, q, oc, K, A, B, C, V, O, P, Q, L, rfl, rfl, hn, hq, hF⟩
theorem i_vc_variable {k : Nat} {u : SX} {v : SY} (I : i_Rel k u v) (hk : k + 5 ≤ 2560) (v1 : Int32) : wpX_variable (fun r => wpY_variable (fun r' => r' = r ∧ i_Rel (k + 5) u v) v v1) u v1 := by
  obtain ⟨n, q, oc, K, A, B, C, V, O, P, Q, L, rfl, rfl, hn, hq, hF⟩ := I
  have J : i_Rel (k + 5) (nI n, nI q, oc, K, A, B, C, V, O, P, Q, L) (nI n, nI q, K, A, B, C, V, O, L) := ⟨n, q, oc, K, A, B, C, V, O, P, Q, L, rfl, rfl, hn, hq, hF⟩
  unfold wpX_variable wpY_variable
  dsimp only
  by_cases h : ad_v v1
  · exact ad_x1 h (br_f ys_1n0 ⟨ad_in h, ad_y1 h (br_f ys_1n0 ⟨ad_in h, rfl, J⟩)⟩)
  · exact ad_x0 h (br_t rfl (ad_y0 h (br_t rfl ⟨rfl, J⟩)))
theorem i_vc_printed {k : Nat} {u : SX} {v : SY} (I : i_Rel k u v) (hk : k + 5 ≤ 2560) : wpX_printed (fun r => wpY_printed (fun r' => r' = r ∧ i_Rel (k + 5) u v) v) u := by
  have J : i_Rel (k + 5) u v := I
  obtain ⟨n, q, oc, K, A, B, C, V, O, P, Q, L, rfl, rfl, hn, hq, hF⟩ := I
  exact ⟨rfl, J⟩
theorem i_vc_output {k : Nat} {u : SX} {v : SY} (I : i_Rel k u v) (hk : k + 5 ≤ 2560) (v1 : Int32) : wpX_output (fun r => wpY_output (fun r' => r' = r ∧ i_Rel (k + 5) u v) v v1) u v1 := by
  have J : i_Rel (k + 5) u v := I
  obtain ⟨n, q, oc, K, A, B, C, V, O, P, Q, L, rfl, rfl, hn, hq, hF⟩ := I
  unfold wpX_output wpY_output
  dsimp only
  by_cases h0 : v1 < 0
  · exact br_t h0 (br_t h0 ⟨rfl, J⟩)
  · by_cases h1 : nI q ≤ v1
    · exact br_f h0 (br_t h1 (br_f h0 (br_t h1 ⟨rfl, J⟩)))
    · obtain ⟨j, hj, e⟩ := nI_of h0
      by_cases h2 : j < 64
      · have hi : vp_in v1 64 := by rw [e]; exact vp_in_nI h2 (by decide)
        exact br_f h0 (br_f h1 (br_t (by rw [e]; exact nI_lt (b := 64) h2 (by decide)) ⟨hi, br_f h0 (br_f h1 (br_f (by rw [e]; exact nI_ge (b := 64) h2 (by decide)) ⟨hi, rfl, J⟩))⟩))
      · exact br_f h0 (br_f h1 (br_f (by rw [e]; exact nI_nlt (b := 64) (by omega) (by omega)) (br_f h0 (br_f h1 (br_t (by rw [e]; exact nI_le (a := 64) (by omega) (by omega)) ⟨rfl, J⟩)))))
theorem i_vc_clear {k : Nat} {u : SX} {v : SY} (I : i_Rel k u v) (hk : k + 5 ≤ 2560) : wpX_clear (fun u' => wpY_clear (fun v' => i_Rel (k + 5) u' v') v) u := by
  obtain ⟨n, q, oc, K, A, B, C, V, O, P, Q, L, rfl, rfl, hn, hq, hF⟩ := I
  unfold wpX_clear wpY_clear
  dsimp only
  obtain ⟨V', hX, hY⟩ := rr_clr (oc := oc) (K := K) (A := A) (B := B) (C := C) (O := O) (P := P) (Q := Q) (L := L) 6 0 V (by omega)
  exact ⟨_, hX _ ⟨_, hY _ ⟨0, 0, oc, K, A, B, C, V', O, P, Q, L, rfl, rfl, by omega, by omega, fun i hi => absurd hi (by omega)⟩⟩⟩
end
