/-- the depth ahead of place i: the openings less the ENDs before it -/
def gs_d (K : Nat → Int32) : Nat → Int
  | 0 => 0
  | i + 1 => gs_d K i + (if K i = 8 ∨ K i = 10 then 1 else if K i = 11 then -1 else 0)
theorem gs_0 (K : Nat → Int32) : gs_d K 0 = 0 := rfl
theorem gs_up {K : Nat → Int32} {i : Nat} (h : K i = 8 ∨ K i = 10) : gs_d K (i + 1) = gs_d K i + 1 := by
  simp only [gs_d, if_pos h]
theorem gs_n8 : ¬ (11 : Int32) = 8 := by decide
theorem gs_n10 : ¬ (11 : Int32) = 10 := by decide
theorem gs_dn {K : Nat → Int32} {i : Nat} (h : K i = 11) : gs_d K (i + 1) = gs_d K i - 1 := by
  have h' : ¬ (K i = 8 ∨ K i = 10) := by
    rw [h]; intro z; cases z with
    | inl z => exact gs_n8 z
    | inr z => exact gs_n10 z
  simp only [gs_d, if_neg h', if_pos h]; omega
theorem gs_eq {K : Nat → Int32} {i : Nat} (h : ¬ (K i = 8 ∨ K i = 10)) (h' : ¬ K i = 11) : gs_d K (i + 1) = gs_d K i := by
  simp only [gs_d, if_neg h, if_neg h']; omega
theorem gs_lip (K : Nat → Int32) (i : Nat) : gs_d K (i + 1) ≤ gs_d K i + 1 ∧ gs_d K i - 1 ≤ gs_d K (i + 1) := by
  by_cases h : K i = 8 ∨ K i = 10
  · rw [gs_up h]; omega
  · by_cases h' : K i = 11
    · rw [gs_dn h']; omega
    · rw [gs_eq h h']; omega
theorem gs_opK {K : Nat → Int32} {i : Nat} (h : gs_d K i < gs_d K (i + 1)) : K i = 8 ∨ K i = 10 := by
  by_cases h1 : K i = 8 ∨ K i = 10
  · exact h1
  · exfalso
    by_cases h' : K i = 11
    · rw [gs_dn h'] at h; omega
    · rw [gs_eq h1 h'] at h; omega
theorem gs_clK {K : Nat → Int32} {i : Nat} (h : gs_d K (i + 1) < gs_d K i) : K i = 11 := by
  by_cases h' : K i = 11
  · exact h'
  · exfalso
    by_cases h1 : K i = 8 ∨ K i = 10
    · rw [gs_up h1] at h; omega
    · rw [gs_eq h1 h'] at h; omega
/-- o is what is innermost open ahead of place i -/
def gs_O (K : Nat → Int32) (i o : Nat) : Prop := o < i ∧ gs_d K o = gs_d K i - 1 ∧ ∀ j, o < j → j ≤ i → gs_d K i ≤ gs_d K j
theorem gs_Ouq {K : Nat → Int32} {i o o' : Nat} (h : gs_O K i o) (h' : gs_O K i o') : o = o' := by
  obtain ⟨a, b, c⟩ := h
  obtain ⟨a', b', c'⟩ := h'
  by_cases l : o < o'
  · have := c o' l (by omega); omega
  · by_cases l' : o' < o
    · have := c' o l' (by omega); omega
    · omega
theorem gs_OK {K : Nat → Int32} {i o : Nat} (h : gs_O K i o) : K o = 8 ∨ K o = 10 := by
  obtain ⟨a, b, c⟩ := h
  exact gs_opK (by have := c (o + 1) (by omega) (by omega); omega)
theorem gs_Oex1 {K : Nat → Int32} {i : Nat} (h : 1 ≤ gs_d K i) : ∀ m, m ≤ i → (∀ j, m ≤ j → j ≤ i → gs_d K i ≤ gs_d K j) → ∃ o, gs_O K i o := by
  intro m
  induction m with
  | zero => intro _ hj; have := hj 0 (by omega) (by omega); rw [gs_0] at this; omega
  | succ m ih =>
    intro hm hj
    by_cases z : gs_d K i ≤ gs_d K m
    · refine ih (by omega) (fun j h1 h2 => ?_)
      by_cases e : j = m
      · rw [e]; exact z
      · exact hj j (by omega) h2
    · refine ⟨m, by omega, ?_, fun j h1 h2 => hj j (by omega) h2⟩
      have h1 := hj (m + 1) (by omega) (by omega)
      have h2 := gs_lip K m
      omega
theorem gs_Oex {K : Nat → Int32} {i : Nat} (h : 1 ≤ gs_d K i) : ∃ o, gs_O K i o :=
  gs_Oex1 h i (by omega) (fun j h1 h2 => by have : j = i := by omega
                                            rw [this]; omega)
theorem gs_Oend {K : Nat → Int32} {c o : Nat} (hK : K c = 11) (h : gs_O K c o) : gs_d K (c + 1) = gs_d K o := by
  rw [gs_dn hK, h.2.1]
theorem gs_Cex1 {K : Nat → Int32} {n i : Nat} (hK : K i = 8 ∨ K i = 10) : ∀ t, i + 1 + t ≤ n → (∃ c, i < c ∧ c < n ∧ K c = 11 ∧ gs_O K c i) ∨ (∀ j, i < j → j ≤ i + 1 + t → gs_d K i < gs_d K j) := by
  intro t
  induction t with
  | zero =>
    intro _
    refine Or.inr (fun j h1 h2 => ?_)
    have : j = i + 1 := by omega
    rw [this, gs_up hK]; omega
  | succ t ih =>
    intro ht
    rcases ih (by omega) with h | h
    · exact Or.inl h
    · by_cases z : gs_d K i < gs_d K (i + 1 + t + 1)
      · refine Or.inr (fun j h1 h2 => ?_)
        by_cases e : j = i + 1 + t + 1
        · rw [e]; exact z
        · exact h j h1 (by omega)
      · have h1 := h (i + 1 + t) (by omega) (by omega)
        have h2 := gs_lip K (i + 1 + t)
        refine Or.inl ⟨i + 1 + t, by omega, by omega, gs_clK (by omega), by omega, by omega, fun j h3 h4 => ?_⟩
        have := h j h3 h4
        omega
theorem gs_Cex {K : Nat → Int32} {n i : Nat} (hi : i < n) (hK : K i = 8 ∨ K i = 10) (hn : gs_d K n ≤ gs_d K i) : ∃ c, i < c ∧ c < n ∧ K c = 11 ∧ gs_O K c i := by
  rcases gs_Cex1 (n := n) hK (n - i - 1) (by omega) with h | h
  · exact h
  · have := h n hi (by omega); omega
/-- o is open ahead of p -/
def gs_Op (K : Nat → Int32) (p o : Nat) : Prop := o < p ∧ ∀ j, o < j → j ≤ p → gs_d K o < gs_d K j
theorem gs_Op_of {K : Nat → Int32} {p o : Nat} (h : gs_O K p o) : gs_Op K p o :=
  ⟨h.1, fun j h1 h2 => by have := h.2.2 j h1 h2; have := h.2.1; omega⟩
/-- no END of o stands ahead of p while o is open -/
theorem gs_Opc {K : Nat → Int32} {p o c : Nat} (h : gs_Op K p o) (hc : c < p) (hK : K c = 11) (ho : gs_O K c o) : False := by
  have h1 := h.2 (c + 1) (by have := ho.1; omega) (by omega)
  have h2 := gs_Oend hK ho
  omega
/-- an ELSE of o stands ahead of o's END -/
theorem gs_elc {K : Nat → Int32} {e o c : Nat} (hK : K c = 11) (ho : gs_O K c o) (he : gs_O K e o) : e ≤ c := by
  by_cases z : e ≤ c
  · exact z
  · exfalso
    have h1 := he.2.2 (c + 1) (by have := ho.1; omega) (by omega)
    have h2 := gs_Oend hK ho
    have h3 := he.2.1
    omega
/-- sound so far: up to p -/
def gs_S (K : Nat → Int32) (p : Nat) : Prop := (∀ j, j ≤ p → 0 ≤ gs_d K j ∧ gs_d K j ≤ 3) ∧ (∀ e, e < p → K e = 9 → ∃ o, gs_O K e o ∧ K o = 8 ∧ ∀ e', e' < e → K e' = 9 → ¬ gs_O K e' o)
theorem gs_Sm {K : Nat → Int32} {p q : Nat} (h : gs_S K q) (hp : p ≤ q) : gs_S K p :=
  ⟨fun j hj => h.1 j (by omega), fun e he hK => h.2 e (by omega) hK⟩
theorem gs_S0 (K : Nat → Int32) : gs_S K 0 :=
  ⟨fun j hj => by have : j = 0 := by omega
                  rw [this, gs_0]; omega, fun e he => by omega⟩
/-- s stands for o at p -/
def gs_T (K : Nat → Int32) (p o s : Nat) : Prop := (s = o ∧ ∀ e, e < p → K e = 9 → ¬ gs_O K e o) ∨ (s < p ∧ K s = 9 ∧ gs_O K s o)
/-- what the table of partners holds at p -/
def gs_P (K : Nat → Int32) (p : Nat) (P : Nat → Int32) : Prop := (∀ o e, e < p → K e = 9 → gs_O K e o → P o = nI e) ∧ (∀ o c, c < p → K c = 11 → gs_O K c o → ∃ s, gs_T K c o s ∧ P s = nI c ∧ P c = nI s)
/-- what the stack holds at p -/
def gs_Q (K : Nat → Int32) (p : Nat) (Q : Nat → Int32) : Prop := ∀ o, gs_Op K p o → ∃ s, gs_T K p o s ∧ Q (gs_d K o).toNat = nI s
theorem gs_us {f : Nat → Int32} {k : Nat} {x : Int32} : upd f k x k = x := by simp [upd]
theorem gs_un {f : Nat → Int32} {k j : Nat} {x : Int32} (h : j ≠ k) : upd f k x j = f j := by simp [upd, h]
theorem gs_Tlt {K : Nat → Int32} {p o s : Nat} (h : gs_T K p o s) (ho : o < p) : s < p := by
  rcases h with ⟨rfl, _⟩ | ⟨h, _⟩
  · exact ho
  · exact h
theorem gs_e98 : ¬ (9 : Int32) = 8 := by decide
theorem gs_e910 : ¬ (9 : Int32) = 10 := by decide
theorem gs_e911 : ¬ (9 : Int32) = 11 := by decide
theorem gs_e118 : ¬ (11 : Int32) = 8 := by decide
theorem gs_e1110 : ¬ (11 : Int32) = 10 := by decide
theorem gs_e119 : ¬ (11 : Int32) = 9 := by decide
theorem gs_e810 : ¬ (8 : Int32) = 10 := by decide
theorem gs_e108 : ¬ (10 : Int32) = 8 := by decide
theorem gs_nop9 {x : Int32} (h : x = 9) : ¬ (x = 8 ∨ x = 10) := by
  rw [h]; intro z; exact z.elim gs_e98 gs_e910
theorem gs_nop11 {x : Int32} (h : x = 11) : ¬ (x = 8 ∨ x = 10) := by
  rw [h]; intro z; exact z.elim gs_e118 gs_e1110
theorem gs_no9 {x : Int32} (h : x = 8 ∨ x = 10) : ¬ x = 9 := fun z => gs_nop9 z h
theorem gs_no11 {x : Int32} (h : x = 8 ∨ x = 10) : ¬ x = 11 := fun z => gs_nop11 z h
/-- a place that isn't an ELSE keeps who stands for whom -/
theorem gs_Tk {K : Nat → Int32} {p o s : Nat} (h9 : ¬ K p = 9) (h : gs_T K p o s) : gs_T K (p + 1) o s := by
  rcases h with ⟨h, z⟩ | ⟨h, z⟩
  · refine Or.inl ⟨h, fun e he hK => ?_⟩
    by_cases ee : e = p
    · rw [ee] at hK; exact absurd hK h9
    · exact z e (by omega) hK
  · exact Or.inr ⟨by omega, z⟩
theorem gs_Sk {K : Nat → Int32} {p : Nat} (h9 : ¬ K p = 9) (h : gs_S K p) (hd : 0 ≤ gs_d K (p + 1) ∧ gs_d K (p + 1) ≤ 3) : gs_S K (p + 1) := by
  refine ⟨fun j hj => ?_, fun e he hK => ?_⟩
  · by_cases ee : j = p + 1
    · rw [ee]; exact hd
    · exact h.1 j (by omega)
  · by_cases ee : e = p
    · rw [ee] at hK; exact absurd hK h9
    · exact h.2 e (by omega) hK
theorem gs_Pk {K : Nat → Int32} {p : Nat} {P : Nat → Int32} (h9 : ¬ K p = 9) (h11 : ¬ K p = 11) (h : gs_P K p P) : gs_P K (p + 1) P := by
  refine ⟨fun o e he hK ho => ?_, fun o c hc hK ho => ?_⟩
  · by_cases ee : e = p
    · rw [ee] at hK; exact absurd hK h9
    · exact h.1 o e (by omega) hK ho
  · by_cases ee : c = p
    · rw [ee] at hK; exact absurd hK h11
    · exact h.2 o c (by omega) hK ho
theorem gs_Opm {K : Nat → Int32} {p o : Nat} (h : gs_Op K (p + 1) o) (hp : o < p) : gs_Op K p o :=
  ⟨hp, fun j h1 h2 => h.2 j h1 (by omega)⟩
theorem gs_Opp {K : Nat → Int32} {p o : Nat} (h : gs_Op K (p + 1) o) (hd : gs_d K (p + 1) ≤ gs_d K p) : gs_Op K p o := by
  refine gs_Opm h ?_
  have h1 := h.1
  by_cases e : o = p
  · have := h.2 (p + 1) (by omega) (by omega)
    rw [e] at this; omega
  · omega
/-- a plain place -/
theorem gs_plain {K : Nat → Int32} {p : Nat} {P Q : Nat → Int32} (h8 : ¬ (K p = 8 ∨ K p = 10)) (h9 : ¬ K p = 9) (h11 : ¬ K p = 11) (hS : gs_S K p) (hP : gs_P K p P) (hQ : gs_Q K p Q) : gs_S K (p + 1) ∧ gs_P K (p + 1) P ∧ gs_Q K (p + 1) Q := by
  have hd := gs_eq h8 h11
  refine ⟨gs_Sk h9 hS (by rw [hd]; exact hS.1 p (by omega)), gs_Pk h9 h11 hP, fun o ho => ?_⟩
  obtain ⟨s, hs, e⟩ := hQ o (gs_Opp ho (by omega))
  exact ⟨s, gs_Tk h9 hs, e⟩
/-- an opening -/
theorem gs_open {K : Nat → Int32} {p : Nat} {P Q : Nat → Int32} (h8 : K p = 8 ∨ K p = 10) (hl : gs_d K p < 3) (hS : gs_S K p) (hP : gs_P K p P) (hQ : gs_Q K p Q) : gs_S K (p + 1) ∧ gs_P K (p + 1) P ∧ gs_Q K (p + 1) (upd Q (gs_d K p).toNat (nI p)) := by
  have hd := gs_up h8
  have h0 := hS.1 p (by omega)
  refine ⟨gs_Sk (gs_no9 h8) hS (by omega), gs_Pk (gs_no9 h8) (gs_no11 h8) hP, fun o ho => ?_⟩
  by_cases e : o = p
  · refine ⟨p, Or.inl ⟨e.symm, fun e' he' hK hO => ?_⟩, by rw [e, gs_us]⟩
    have := hO.1
    omega
  · have ho' := gs_Opm ho (by have := ho.1; omega)
    obtain ⟨s, hs, es⟩ := hQ o ho'
    refine ⟨s, gs_Tk (gs_no9 h8) hs, ?_⟩
    have h1 := ho'.2 p ho'.1 (by omega)
    have h2 := hS.1 o (by have := ho'.1; omega)
    rw [gs_un (by omega)]; exact es
/-- an ELSE -/
theorem gs_else {K : Nat → Int32} {p o : Nat} {P Q : Nat → Int32} (h9 : K p = 9) (hO : gs_O K p o) (hKo : K o = 8) (hn : ∀ e, e < p → K e = 9 → ¬ gs_O K e o) (hS : gs_S K p) (hP : gs_P K p P) (hQ : gs_Q K p Q) : gs_S K (p + 1) ∧ gs_P K (p + 1) (upd P o (nI p)) ∧ gs_Q K (p + 1) (upd Q (gs_d K o).toNat (nI p)) := by
  have h8 : ¬ (K p = 8 ∨ K p = 10) := gs_nop9 h9
  have h11 : ¬ K p = 11 := by rw [h9]; exact gs_e911
  have hd := gs_eq h8 h11
  have hop := gs_Op_of hO
  refine ⟨⟨fun j hj => ?_, fun e he hK => ?_⟩, ⟨fun o' e he hK ho => ?_, fun o' c hc hK ho => ?_⟩, fun o' ho => ?_⟩
  · by_cases ee : j = p + 1
    · rw [ee, hd]; exact hS.1 p (by omega)
    · exact hS.1 j (by omega)
  · by_cases ee : e = p
    · rw [ee]; exact ⟨o, hO, hKo, hn⟩
    · exact hS.2 e (by omega) hK
  · by_cases ee : e = p
    · rw [ee] at ho ⊢
      rw [gs_Ouq ho hO, gs_us]
    · have hne : o' ≠ o := fun z => hn e (by omega) hK (z ▸ ho)
      rw [gs_un hne]; exact hP.1 o' e (by omega) hK ho
  · by_cases ee : c = p
    · rw [ee] at hK; exact absurd hK h11
    · obtain ⟨s, hs, e1, e2⟩ := hP.2 o' c (by omega) hK ho
      have hc' : c ≠ o := fun z => gs_e118 (by rw [← hK, z]; exact hKo)
      have hs' : s ≠ o := by
        intro z
        rcases hs with ⟨h, _⟩ | ⟨_, h, _⟩
        · rw [← h, z] at ho; exact gs_Opc hop (by omega) hK ho
        · rw [z, hKo] at h; exact gs_e98 h.symm
      exact ⟨s, hs, by rw [gs_un hs']; exact e1, by rw [gs_un hc']; exact e2⟩
  · have ho' := gs_Opp ho (by omega)
    by_cases ee : o' = o
    · rw [ee]; exact ⟨p, Or.inr ⟨by omega, h9, hO⟩, gs_us⟩
    · obtain ⟨s, hs, es⟩ := hQ o' ho'
      have hl : gs_d K o' ≠ gs_d K o := by
        intro z
        by_cases l : o' < o
        · have := ho'.2 o l (by have := hO.1; omega); omega
        · have := hop.2 o' (by omega) (by have := ho'.1; omega); omega
      have h0 := (hS.1 o (by have := hO.1; omega)).1
      have h1 := (hS.1 o' (by have := ho'.1; omega)).1
      refine ⟨s, ?_, by rw [gs_un (by omega)]; exact es⟩
      rcases hs with ⟨h, z⟩ | ⟨h, z⟩
      · refine Or.inl ⟨h, fun e he hK hOe => ?_⟩
        by_cases e1 : e = p
        · rw [e1] at hOe; exact ee (gs_Ouq hOe hO)
        · exact z e (by omega) hK hOe
      · exact Or.inr ⟨by omega, z⟩
/-- an END -/
theorem gs_end {K : Nat → Int32} {p o s : Nat} {P Q : Nat → Int32} (h11 : K p = 11) (hO : gs_O K p o) (hs : gs_T K p o s) (hS : gs_S K p) (hP : gs_P K p P) (hQ : gs_Q K p Q) : gs_S K (p + 1) ∧ gs_P K (p + 1) (upd (upd P s (nI p)) p (nI s)) ∧ gs_Q K (p + 1) Q := by
  have h8 : ¬ (K p = 8 ∨ K p = 10) := gs_nop11 h11
  have h9 : ¬ K p = 9 := by rw [h11]; exact gs_e119
  have hd := gs_Oend h11 hO
  have hd' := gs_dn h11
  have hop := gs_Op_of hO
  have hsp := gs_Tlt hs hO.1
  have hKo := gs_OK hO
  have h0 := hS.1 o (by have := hO.1; omega)
  refine ⟨gs_Sk h9 hS (by rw [hd]; exact h0), ⟨fun o' e he hK ho => ?_, fun o' c hc hK ho => ?_⟩, fun o' ho => ?_⟩
  · have e1 : e < p := by
      by_cases ee : e = p
      · rw [ee] at hK; exact absurd hK h9
      · omega
    have n1 : o' ≠ p := by have := ho.1; omega
    have n2 : o' ≠ s := by
      intro z
      rcases hs with ⟨h, hn⟩ | ⟨_, h, _⟩
      · rw [z, h] at ho; exact hn e e1 hK ho
      · rw [← z] at h; exact gs_no9 (gs_OK ho) h
    rw [gs_un n1, gs_un n2]; exact hP.1 o' e e1 hK ho
  · by_cases ee : c = p
    · rw [ee] at ho ⊢
      have eo := gs_Ouq ho hO
      rw [eo]
      exact ⟨s, hs, by rw [gs_un (by omega), gs_us], gs_us⟩
    · have c1 : c < p := by omega
      obtain ⟨s', hs', e1, e2⟩ := hP.2 o' c c1 hK ho
      have hoc := ho.1
      have hsc := gs_Tlt hs' hoc
      have ncl : ∀ z : o' = o, False := fun z => gs_Opc hop c1 hK (z ▸ ho)
      have n1 : s' ≠ s := by
        intro z
        rcases hs with ⟨h, hn⟩ | ⟨_, h, hO2⟩
        · rcases hs' with ⟨h', _⟩ | ⟨_, h', _⟩
          · exact ncl (by rw [← h', z, h])
          · rw [z, h] at h'; exact gs_no9 hKo h'
        · rcases hs' with ⟨h', _⟩ | ⟨_, _, hO'⟩
          · rw [← z, h'] at h; exact gs_no9 (gs_OK ho) h
          · rw [z] at hO'; exact ncl (gs_Ouq hO' hO2)
      have n2 : c ≠ s := by
        intro z
        rcases hs with ⟨h, hn⟩ | ⟨_, h, hO2⟩
        · rw [z, h] at hK; exact gs_no11 hKo hK
        · rw [← z, hK] at h; exact gs_e119 h
      exact ⟨s', hs', by rw [gs_un (by omega), gs_un n1]; exact e1, by rw [gs_un ee, gs_un n2]; exact e2⟩
  · obtain ⟨s', hs', es⟩ := hQ o' (gs_Opp ho (by omega))
    exact ⟨s', gs_Tk h9 hs', es⟩
