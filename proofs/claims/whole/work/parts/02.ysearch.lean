theorem ys_m1 (m : Nat) : nI (m + 1) + (-1) = nI m := by
  have h : nI (m + 1) - 1 = nI m := nI_pred m
  rw [Int32.sub_eq_add_neg] at h; exact h
theorem ys_m1' {m k : Nat} (h : k = m + 1) : nI k + (-1) = nI m := by rw [h]; exact ys_m1 m
theorem ys_p1' {m k : Nat} (h : k = m + 1) : nI m + 1 = nI k := by rw [h]; exact nI_1 m
section
variable {f : Int32} {K A B C V O L : Nat → Int32} {n : Nat}
theorem ys_opens1 {post : Int32 → Prop} {g : Int32} {p : Nat} (hp : p < 40) (h : K p = 8 ∨ K p = 10) (H : post 1) : wpY_opens post (g, f, K, A, B, C, V, O, L) (nI p) := by
  have hi : vp_in (nI p) 40 := vp_in_nI hp (by decide)
  have hc : (nI p).toNatClampNeg = p := nI_clamp (by omega)
  unfold wpY_opens
  dsimp only
  rw [hc]
  by_cases h8 : K p = 8
  · exact ⟨hi, br_t h8 H⟩
  · exact ⟨hi, br_f h8 ⟨hi, br_t (h.resolve_left h8) H⟩⟩
theorem ys_opens0 {post : Int32 → Prop} {g : Int32} {p : Nat} (hp : p < 40) (h : ¬ (K p = 8 ∨ K p = 10)) (H : post 0) : wpY_opens post (g, f, K, A, B, C, V, O, L) (nI p) := by
  have hi : vp_in (nI p) 40 := vp_in_nI hp (by decide)
  have hc : (nI p).toNatClampNeg = p := nI_clamp (by omega)
  unfold wpY_opens
  dsimp only
  rw [hc]
  exact ⟨hi, br_f (fun z => h (Or.inl z)) ⟨hi, br_f (fun z => h (Or.inr z)) H⟩⟩
theorem ys_1n0 : ¬ (1 : Int32) = 0 := by decide
/-- endOf: the loop -/
theorem ys_endL {i c : Nat} (hcn : c < n) (hn : n ≤ 40) (hK : K c = 11) (hO : gs_O K c i) (post : Int32 → Prop) (hp : post (nI c)) : ∀ t k, k + t = c → i ≤ k → wY_endOf_4 post (nI n) f K A B C V O L (t + 1) (nI (gs_d K k - gs_d K i).toNat) (nI k) := by
  intro t
  induction t with
  | zero =>
    intro k hk hi
    have e : k = c := by omega
    subst e
    have h1 : ¬ nI n ≤ nI k := nI_ge hcn (by omega)
    have hc : (nI k).toNatClampNeg = k := nI_clamp (by omega)
    have hin : vp_in (nI k) 40 := vp_in_nI (by omega) (by decide)
    have h2 : (gs_d K k - gs_d K i).toNat = 0 + 1 := by have := hO.2.1; omega
    unfold wY_endOf_4
    refine br_f h1 (ys_opens0 (by omega) (gs_nop11 hK) (br_t rfl ?_))
    unfold wY_endOf_23
    rw [hc]
    refine ⟨hin, br_t hK (nm_r (ys_m1' h2) ?_)⟩
    unfold wY_endOf_37
    exact br_t nI_0 hp
  | succ t ih =>
    intro k hk hi
    have h1 : ¬ nI n ≤ nI k := nI_ge (by omega) (by omega)
    have hc : (nI k).toNatClampNeg = k := nI_clamp (by omega)
    have hin : vp_in (nI k) 40 := vp_in_nI (by omega) (by decide)
    have h3 : gs_d K i < gs_d K (k + 1) := by have := hO.2.1; have := hO.2.2 (k + 1) (by omega) (by omega); omega
    have h4 : gs_d K i ≤ gs_d K k := by
      by_cases e : k = i
      · rw [e]; omega
      · have := hO.2.1; have := hO.2.2 k (by omega) (by omega); omega
    have hb : gs_d K (k + 1) ≤ gs_d K i + 41 ∨ True := Or.inr trivial
    have key : ∀ m : Nat, m = (gs_d K (k + 1) - gs_d K i).toNat → m < 100 → wY_endOf_37 post (wY_endOf_4 post (nI n) f K A B C V O L (t + 1)) (nI m) (nI k) (nI n) f K A B C V O L := by
      intro m hm hm2
      unfold wY_endOf_37
      refine br_f (nI_ne0 (by omega) (by omega)) (nm_r (nI_1 k) ?_)
      rw [hm]
      exact ih (k + 1) (by omega) (by omega)
    have hub : ∀ j : Nat, gs_d K j ≤ j := by
      intro j
      induction j with
      | zero => rw [gs_0]; omega
      | succ j ihj => have := (gs_lip K j).1; omega
    have hlb : ∀ j : Nat, - (j : Int) ≤ gs_d K j := by
      intro j
      induction j with
      | zero => rw [gs_0]; omega
      | succ j ihj => have := (gs_lip K j).2; omega
    have b1 := hub (k + 1)
    have b2 := hlb i
    unfold wY_endOf_4
    refine br_f h1 ?_
    by_cases hop : K k = 8 ∨ K k = 10
    · have hd := gs_up hop
      refine ys_opens1 (by omega) hop (br_f ys_1n0 (nm_r (ys_p1' (k := (gs_d K (k + 1) - gs_d K i).toNat) (by omega)) ?_))
      unfold wY_endOf_23
      rw [hc]
      exact ⟨hin, br_f (gs_no11 hop) (key _ rfl (by omega))⟩
    · refine ys_opens0 (by omega) hop (br_t rfl ?_)
      unfold wY_endOf_23
      rw [hc]
      by_cases h11 : K k = 11
      · have hd := gs_dn h11
        exact ⟨hin, br_t h11 (nm_r (ys_m1' (m := (gs_d K (k + 1) - gs_d K i).toNat) (by omega)) (key _ rfl (by omega)))⟩
      · have hd := gs_eq hop h11
        exact ⟨hin, br_f h11 (key _ (by rw [hd]) (by omega))⟩
theorem ys_end {i c : Nat} (hcn : c < n) (hn : n ≤ 40) (hK : K c = 11) (hO : gs_O K c i) (post : Int32 → Prop) (hp : post (nI c)) : wpY_endOf post (nI n, f, K, A, B, C, V, O, L) (nI i) := by
  unfold wpY_endOf
  dsimp only
  have hoi := hO.1
  have h := ys_endL (f := f) (A := A) (B := B) (C := C) (V := V) (O := O) (L := L) hcn hn hK hO post hp (c - i) i (by omega) (by omega)
  have e : (gs_d K i - gs_d K i).toNat = 0 := by omega
  rw [e, nI_0] at h
  exact ⟨_, h⟩
theorem ys_hub (K : Nat → Int32) : ∀ j : Nat, gs_d K j ≤ j := by
  intro j
  induction j with
  | zero => rw [gs_0]; omega
  | succ j ihj => have := (gs_lip K j).1; omega
theorem ys_hlb (K : Nat → Int32) : ∀ j : Nat, - (j : Int) ≤ gs_d K j := by
  intro j
  induction j with
  | zero => rw [gs_0]; omega
  | succ j ihj => have := (gs_lip K j).2; omega
/-- openerOf: one place -/
theorem ys_opn1 {g : Int32} {i k : Nat} (hi : i ≤ 40) (hk : k < i) (h4 : gs_d K i ≤ gs_d K (k + 1)) (post : Int32 → Prop) (t : Nat) (key : ∀ m : Nat, m = (1 + gs_d K k - gs_d K i).toNat → m < 100 → wY_openerOf_35 post (wY_openerOf_6 post g f K A B C V O L t) (nI m) (nI k) g f K A B C V O L) : wY_openerOf_6 post g f K A B C V O L (t + 1) (nI (1 + gs_d K (k + 1) - gs_d K i).toNat) (nI k) := by
  have h1 : ¬ nI k < 0 := nI_pos (by omega)
  have hc : (nI k).toNatClampNeg = k := nI_clamp (by omega)
  have hin : vp_in (nI k) 40 := vp_in_nI (by omega) (by decide)
  have b1 := ys_hub K (k + 1)
  have b2 := ys_hlb K i
  have b3 := ys_hub K k
  have hl := gs_lip K k
  unfold wY_openerOf_6
  refine br_f h1 ⟨hin, ?_⟩
  rw [hc]
  by_cases h11 : K k = 11
  · have hd := gs_dn h11
    refine br_t h11 (nm_r (ys_p1' (k := (1 + gs_d K k - gs_d K i).toNat) (by omega)) ?_)
    unfold wY_openerOf_24
    exact ys_opens0 (by omega) (gs_nop11 h11) (br_t rfl (key _ rfl (by omega)))
  · refine br_f h11 ?_
    unfold wY_openerOf_24
    by_cases hop : K k = 8 ∨ K k = 10
    · have hd := gs_up hop
      exact ys_opens1 (by omega) hop (br_f ys_1n0 (nm_r (ys_m1' (m := (1 + gs_d K k - gs_d K i).toNat) (by omega)) (key _ rfl (by omega))))
    · have hd := gs_eq hop h11
      exact ys_opens0 (by omega) hop (br_t rfl (key _ (by rw [hd]) (by omega)))
theorem ys_opnL {g : Int32} {i o : Nat} (hi : i ≤ 40) (hO : gs_O K i o) (post : Int32 → Prop) (hp : post (nI o)) : ∀ t k, o + t = k → k < i → wY_openerOf_6 post g f K A B C V O L (t + 1) (nI (1 + gs_d K (k + 1) - gs_d K i).toNat) (nI k) := by
  intro t
  induction t with
  | zero =>
    intro k hk hki
    have e : k = o := by omega
    subst e
    refine ys_opn1 hi hki (hO.2.2 (k + 1) (by omega) (by omega)) post 0 (fun m hm hm2 => ?_)
    have h2 : m = 0 := by have := hO.2.1; omega
    unfold wY_openerOf_35
    rw [h2]
    exact br_t nI_0 hp
  | succ t ih =>
    intro k hk hki
    have h5 := hO.2.2 k (by omega) (by omega)
    refine ys_opn1 hi hki (hO.2.2 (k + 1) (by omega) (by omega)) post (t + 1) (fun m hm hm2 => ?_)
    unfold wY_openerOf_35
    refine br_f (nI_ne0 (by omega) (by omega)) (nm_r (ys_m1' (m := o + t) (by omega)) ?_)
    have h := ih (o + t) rfl (by omega)
    have e : o + t + 1 = k := by omega
    rw [e, ← hm] at h
    exact h
theorem ys_opn {g : Int32} {i o : Nat} (hi : i ≤ 40) (hO : gs_O K i o) (post : Int32 → Prop) (hp : post (nI o)) : wpY_openerOf post (g, f, K, A, B, C, V, O, L) (nI i) := by
  unfold wpY_openerOf
  dsimp only
  have hoi := hO.1
  have h := ys_opnL (g := g) (f := f) (A := A) (B := B) (C := C) (V := V) (O := O) (L := L) hi hO post hp (i - 1 - o) (i - 1) (by omega) (by omega)
  have e0 : i - 1 + 1 = i := by omega
  rw [e0] at h
  have e : (1 + gs_d K i - gs_d K i).toNat = 1 := by omega
  rw [e] at h
  have e1 : nI i - 1 = nI (i - 1) := by
    have := nI_pred (i - 1)
    rw [e0] at this; exact this
  exact nm_r e1 ⟨_, h⟩
theorem ys_nopL {g : Int32} {i : Nat} (hi : i ≤ 40) (hO : ∀ j, j ≤ i → gs_d K i ≤ gs_d K j) (post : Int32 → Prop) (hp : post (-1)) : ∀ k, k < i → wY_openerOf_6 post g f K A B C V O L (k + 2) (nI (1 + gs_d K (k + 1) - gs_d K i).toNat) (nI k) := by
  intro k
  induction k with
  | zero =>
    intro hki
    refine ys_opn1 hi hki (hO _ (by omega)) post 1 (fun m hm hm2 => ?_)
    have h5 := hO 0 (by omega)
    unfold wY_openerOf_35
    refine br_f (nI_ne0 (by omega) (by omega)) (nm_e ?_)
    unfold wY_openerOf_6
    exact br_t (by decide) hp
  | succ k ih =>
    intro hki
    refine ys_opn1 hi hki (hO _ (by omega)) post (k + 2) (fun m hm hm2 => ?_)
    have h5 := hO (k + 1) (by omega)
    unfold wY_openerOf_35
    refine br_f (nI_ne0 (by omega) (by omega)) (nm_r (ys_m1 k) ?_)
    rw [hm]
    exact ih (by omega)
theorem ys_nop {g : Int32} {i : Nat} (hi : i ≤ 40) (hO : ∀ j, j ≤ i → gs_d K i ≤ gs_d K j) (post : Int32 → Prop) (hp : post (-1)) : wpY_openerOf post (g, f, K, A, B, C, V, O, L) (nI i) := by
  unfold wpY_openerOf
  dsimp only
  cases i with
  | zero =>
    refine nm_e ⟨1, ?_⟩
    unfold wY_openerOf_6
    exact br_t (by decide) hp
  | succ i =>
    have h := ys_nopL (g := g) (f := f) (A := A) (B := B) (C := C) (V := V) (O := O) (L := L) hi hO post hp i (by omega)
    have e : (1 + gs_d K (i + 1) - gs_d K (i + 1)).toNat = 1 := by omega
    rw [e] at h
    exact nm_r (nI_pred i) ⟨_, h⟩
/-- elseOf: an ELSE of i stands at e -/
theorem ys_elsL {i c e : Nat} (hc : c ≤ 40) (hie : e < c) (hK : K e = 9) (hO : gs_O K e i) (hf : ∀ k, i < k → k < e → K k = 9 → ∃ o, gs_O K k o ∧ o ≠ i) (post : Int32 → Prop) (hp : post (nI e)) : ∀ t k, k + t = e → i < k → wY_elseOf_10 post (nI i) (nI c) (nI n) f K A B C V O L (t + 1) (nI k) := by
  intro t
  induction t with
  | zero =>
    intro k hk hik
    have e0 : k = e := by omega
    subst e0
    have hcl : (nI k).toNatClampNeg = k := nI_clamp (by omega)
    unfold wY_elseOf_10
    rw [hcl]
    exact br_f (nI_ge (by omega) (by omega)) ⟨vp_in_nI (by omega) (by decide), br_t hK (ys_opn (by omega) hO _ (br_t rfl hp))⟩
  | succ t ih =>
    intro k hk hik
    have hcl : (nI k).toNatClampNeg = k := nI_clamp (by omega)
    unfold wY_elseOf_10
    rw [hcl]
    refine br_f (nI_ge (by omega) (by omega)) ⟨vp_in_nI (by omega) (by decide), ?_⟩
    by_cases h9 : K k = 9
    · obtain ⟨o, ho, hne⟩ := hf k hik (by omega) h9
      have := ho.1
      exact br_t h9 (ys_opn (by omega) ho _ (br_f (fun z => hne ((nI_eq (by omega) (by omega)).mp z)) (nm_r (nI_1 k) (ih (k + 1) (by omega) (by omega)))))
    · exact br_f h9 (nm_r (nI_1 k) (ih (k + 1) (by omega) (by omega)))
theorem ys_nelL {i c : Nat} (hc : c ≤ 40) (hf : ∀ k, i < k → k < c → K k = 9 → ∃ o, gs_O K k o ∧ o ≠ i) (post : Int32 → Prop) (hp : post (-1)) : ∀ t k, k + t = c → i < k → wY_elseOf_10 post (nI i) (nI c) (nI n) f K A B C V O L (t + 1) (nI k) := by
  intro t
  induction t with
  | zero =>
    intro k hk hik
    have e0 : k = c := by omega
    subst e0
    unfold wY_elseOf_10
    exact br_t (nI_le (by omega) (by omega)) hp
  | succ t ih =>
    intro k hk hik
    have hcl : (nI k).toNatClampNeg = k := nI_clamp (by omega)
    unfold wY_elseOf_10
    rw [hcl]
    refine br_f (nI_ge (by omega) (by omega)) ⟨vp_in_nI (by omega) (by decide), ?_⟩
    by_cases h9 : K k = 9
    · obtain ⟨o, ho, hne⟩ := hf k hik (by omega) h9
      have := ho.1
      exact br_t h9 (ys_opn (by omega) ho _ (br_f (fun z => hne ((nI_eq (by omega) (by omega)).mp z)) (nm_r (nI_1 k) (ih (k + 1) (by omega) (by omega)))))
    · exact br_f h9 (nm_r (nI_1 k) (ih (k + 1) (by omega) (by omega)))
theorem ys_els {i c e : Nat} (hcn : c < n) (hn : n ≤ 40) (hKc : K c = 11) (hOc : gs_O K c i) (hie : e < c) (hK : K e = 9) (hO : gs_O K e i) (hf : ∀ k, i < k → k < e → K k = 9 → ∃ o, gs_O K k o ∧ o ≠ i) (post : Int32 → Prop) (hp : post (nI e)) : wpY_elseOf post (nI n, f, K, A, B, C, V, O, L) (nI i) := by
  unfold wpY_elseOf
  dsimp only
  have := hO.1
  exact ys_end hcn hn hKc hOc _ (nm_r (nI_1 i) ⟨_, ys_elsL (by omega) hie hK hO hf post hp (e - i - 1) (i + 1) (by omega) (by omega)⟩)
theorem ys_nel {i c : Nat} (hcn : c < n) (hn : n ≤ 40) (hKc : K c = 11) (hOc : gs_O K c i) (hf : ∀ k, i < k → k < c → K k = 9 → ∃ o, gs_O K k o ∧ o ≠ i) (post : Int32 → Prop) (hp : post (-1)) : wpY_elseOf post (nI n, f, K, A, B, C, V, O, L) (nI i) := by
  unfold wpY_elseOf
  dsimp only
  have := hOc.1
  exact ys_end hcn hn hKc hOc _ (nm_r (nI_1 i) ⟨_, ys_nelL (by omega) hf post hp (c - i - 1) (i + 1) (by omega) (by omega)⟩)
/-- elseFits: its loop, an ELSE of o stands at e -/
theorem ys_ft0L {g : Int32} {p o e : Nat} (hp : p ≤ 40) (hie : e < p) (hK : K e = 9) (hO : gs_O K e o) (hf : ∀ k, o < k → k < e → K k = 9 → ∃ o', gs_O K k o' ∧ o' ≠ o) (post : Int32 → Prop) (H : post 0) : ∀ t k, k + t = e → o < k → wY_elseFits_27 post (nI p) (nI o) g f K A B C V O L (t + 1) (nI k) := by
  intro t
  induction t with
  | zero =>
    intro k hk hik
    have e0 : k = e := by omega
    subst e0
    have hcl : (nI k).toNatClampNeg = k := nI_clamp (by omega)
    unfold wY_elseFits_27
    rw [hcl]
    exact br_f (nI_ge (by omega) (by omega)) ⟨vp_in_nI (by omega) (by decide), br_t hK (ys_opn (by omega) hO _ (br_t rfl H))⟩
  | succ t ih =>
    intro k hk hik
    have hcl : (nI k).toNatClampNeg = k := nI_clamp (by omega)
    unfold wY_elseFits_27
    rw [hcl]
    refine br_f (nI_ge (by omega) (by omega)) ⟨vp_in_nI (by omega) (by decide), ?_⟩
    by_cases h9 : K k = 9
    · obtain ⟨o, ho, hne⟩ := hf k hik (by omega) h9
      have := ho.1
      exact br_t h9 (ys_opn (by omega) ho _ (br_f (fun z => hne ((nI_eq (by omega) (by omega)).mp z)) (nm_r (nI_1 k) (ih (k + 1) (by omega) (by omega)))))
    · exact br_f h9 (nm_r (nI_1 k) (ih (k + 1) (by omega) (by omega)))
theorem ys_ft1L {g : Int32} {p o : Nat} (hp : p ≤ 40) (hf : ∀ k, o < k → k < p → K k = 9 → ∃ o', gs_O K k o' ∧ o' ≠ o) (post : Int32 → Prop) (H : post 1) : ∀ t k, k + t = p → o < k → wY_elseFits_27 post (nI p) (nI o) g f K A B C V O L (t + 1) (nI k) := by
  intro t
  induction t with
  | zero =>
    intro k hk hik
    have e0 : k = p := by omega
    subst e0
    unfold wY_elseFits_27
    exact br_t (nI_le (by omega) (by omega)) H
  | succ t ih =>
    intro k hk hik
    have hcl : (nI k).toNatClampNeg = k := nI_clamp (by omega)
    unfold wY_elseFits_27
    rw [hcl]
    refine br_f (nI_ge (by omega) (by omega)) ⟨vp_in_nI (by omega) (by decide), ?_⟩
    by_cases h9 : K k = 9
    · obtain ⟨o, ho, hne⟩ := hf k hik (by omega) h9
      have := ho.1
      exact br_t h9 (ys_opn (by omega) ho _ (br_f (fun z => hne ((nI_eq (by omega) (by omega)).mp z)) (nm_r (nI_1 k) (ih (k + 1) (by omega) (by omega)))))
    · exact br_f h9 (nm_r (nI_1 k) (ih (k + 1) (by omega) (by omega)))
/-- elseFits at p, where all is sound ahead of p: it answers whether p's own clause holds -/
theorem ys_fit {g : Int32} {p : Nat} (hp : p < 40) (hS : gs_S K p) (post : Int32 → Prop) (H1 : ∀ o, gs_O K p o → K o = 8 → (∀ e', e' < p → K e' = 9 → ¬ gs_O K e' o) → post 1) (H0 : ¬ (∃ o, gs_O K p o ∧ K o = 8 ∧ ∀ e', e' < p → K e' = 9 → ¬ gs_O K e' o) → post 0) : wpY_elseFits post (g, f, K, A, B, C, V, O, L) (nI p) := by
  unfold wpY_elseFits
  dsimp only
  have hd0 := hS.1 p (by omega)
  by_cases h0 : gs_d K p = 0
  · refine ys_nop (by omega) (fun j hj => by have := hS.1 j hj; omega) _ (br_t (by decide) (H0 ?_))
    intro ⟨o, ho, _⟩
    have := hS.1 o (by have := ho.1; omega)
    have := ho.2.1
    omega
  · obtain ⟨o, ho⟩ := gs_Oex (K := K) (i := p) (by omega)
    have hop := ho.1
    have hcl : (nI o).toNatClampNeg = o := nI_clamp (by omega)
    refine ys_opn (by omega) ho _ (br_f (nI_pos (by omega)) ?_)
    rw [hcl]
    refine ⟨vp_in_nI (by omega) (by decide), ?_⟩
    by_cases hK : K o = 8
    · refine br_t hK (nm_r (nI_1 o) ?_)
      by_cases he : ∃ e, e < p ∧ K e = 9 ∧ gs_O K e o
      · obtain ⟨e, h1, h2, h3⟩ := he
        have hoe := h3.1
        obtain ⟨o', h4, _, h5⟩ := hS.2 e h1 h2
        have e1 := gs_Ouq h3 h4
        refine ⟨_, ys_ft0L (by omega) h1 h2 h3 (fun k k1 k2 k3 => ?_) post (H0 ?_) (e - o - 1) (o + 1) (by omega) (by omega)⟩
        · obtain ⟨o2, h6, _, _⟩ := hS.2 k (by omega) k3
          exact ⟨o2, h6, fun z => h5 k k2 k3 (by rw [← e1, ← z]; exact h6)⟩
        · intro ⟨o3, h7, _, h8⟩
          have e2 := gs_Ouq ho h7
          exact h8 e h1 h2 (e2 ▸ h3)
      · refine ⟨_, ys_ft1L (by omega) (fun k k1 k2 k3 => ?_) post (H1 o ho hK (fun e' a b c => he ⟨e', a, b, c⟩)) (p - o - 1) (o + 1) (by omega) (by omega)⟩
        obtain ⟨o2, h6, _, _⟩ := hS.2 k k2 k3
        exact ⟨o2, h6, fun z => he ⟨k, k2, k3, z ▸ h6⟩⟩
    · refine br_f hK (H0 ?_)
      intro ⟨o3, h7, h8, _⟩
      have e2 := gs_Ouq ho h7
      exact hK (e2 ▸ h8)
end
