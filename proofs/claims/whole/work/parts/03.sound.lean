theorem sn_b0 : narrow .boolean (.int 0) = .int 0 := by rfl
theorem sn_b1 : narrow .boolean (.int 1) = .int 1 := by rfl
section
variable {f : Int32} {K A B C V O L : Nat → Int32} {n : Nat}
/-- the reference's sound: the loop -/
theorem sn_yL (hn : n ≤ 40) (post : Int32 → Prop) (H1 : gs_S K n → gs_d K n = 0 → post 1) (H0 : ¬ (gs_S K n ∧ gs_d K n = 0) → post 0) : ∀ t k, k + t = n → gs_S K k → wY_sound_4 post (nI n) f K A B C V O L (t + 1) (nI (gs_d K k).toNat) (nI k) := by
  intro t
  induction t with
  | zero =>
    intro k hk hS
    have e : k = n := by omega
    subst e
    have hd := hS.1 k (by omega)
    unfold wY_sound_4
    refine br_t (nI_le (by omega) (by omega)) ?_
    by_cases z : gs_d K k = 0
    · refine br_t ?_ (H1 hS z)
      rw [z]; exact nI_0
    · exact br_f (nI_ne0 (by omega) (by omega)) (H0 (fun w => z w.2))
  | succ t ih =>
    intro k hk hS
    have hd := hS.1 k (by omega)
    have h1 : ¬ nI n ≤ nI k := nI_ge (by omega) (by omega)
    have hc : (nI k).toNatClampNeg = k := nI_clamp (by omega)
    have hin : vp_in (nI k) 40 := vp_in_nI (by omega) (by decide)
    have nxt : gs_S K (k + 1) → ¬ K k = 9 → ∀ m : Nat, m = (gs_d K (k + 1)).toNat → wY_sound_37 post (wY_sound_4 post (nI n) f K A B C V O L (t + 1)) (nI m) (nI k) (nI n) f K A B C V O L := by
      intro hS' h9 m hm
      have hd' := hS'.1 (k + 1) (by omega)
      unfold wY_sound_37
      rw [hc]
      refine br_f (nI_pos (by omega)) (br_t (nI_le (b := 3) (by omega) (by decide)) ⟨hin, br_f h9 (nm_r (nI_1 k) ?_)⟩)
      rw [hm]
      exact ih (k + 1) (by omega) hS'
    unfold wY_sound_4
    refine br_f h1 ?_
    by_cases hop : K k = 8 ∨ K k = 10
    · have hd' := gs_up hop
      refine ys_opens1 (by omega) hop (br_f ys_1n0 (nm_r (ys_p1' (k := (gs_d K (k + 1)).toNat) (by omega)) ?_))
      unfold wY_sound_23
      rw [hc]
      refine ⟨hin, br_f (gs_no11 hop) ?_⟩
      by_cases l : gs_d K k < 3
      · exact nxt (gs_Sk (gs_no9 hop) hS (by omega)) (gs_no9 hop) _ rfl
      · unfold wY_sound_37
        refine br_f (nI_pos (by omega)) (br_f (nI_ge (a := 3) (by omega) (by omega)) (H0 (fun w => ?_)))
        have := w.1.1 (k + 1) (by omega)
        omega
    · refine ys_opens0 (by omega) hop (br_t rfl ?_)
      unfold wY_sound_23
      rw [hc]
      refine ⟨hin, ?_⟩
      by_cases h11 : K k = 11
      · have hd' := gs_dn h11
        have h9 : ¬ K k = 9 := by rw [h11]; exact gs_e119
        refine br_t h11 ?_
        by_cases z : gs_d K k = 0
        · have e : nI (gs_d K k).toNat + (-1) = -1 := by rw [z]; decide
          refine nm_r e ?_
          unfold wY_sound_37
          refine br_t (by decide) (H0 (fun w => ?_))
          have := w.1.1 (k + 1) (by omega)
          omega
        · exact nm_r (ys_m1' (m := (gs_d K (k + 1)).toNat) (by omega)) (nxt (gs_Sk h9 hS (by omega)) h9 _ rfl)
      · have hd' := gs_eq hop h11
        refine br_f h11 ?_
        by_cases h9 : K k = 9
        · unfold wY_sound_37
          rw [hc]
          refine br_f (nI_pos (by omega)) (br_t (nI_le (b := 3) (by omega) (by decide)) ⟨hin, br_t h9 (ys_fit (by omega) hS _ (fun o ho hKo hne => ?_) (fun z => ?_))⟩)
          · refine br_f ys_1n0 (nm_r (nI_1 k) ?_)
            rw [← hd']
            refine ih (k + 1) (by omega) ⟨fun j hj => ?_, fun e he hK => ?_⟩
            · by_cases ee : j = k + 1
              · rw [ee, hd']; exact hd
              · exact hS.1 j (by omega)
            · by_cases ee : e = k
              · rw [ee]; exact ⟨o, ho, hKo, hne⟩
              · exact hS.2 e (by omega) hK
          · exact br_t rfl (H0 (fun w => z (w.1.2 k (by omega) h9)))
        · exact nxt (gs_Sk h9 hS (by omega)) h9 _ (by rw [hd'])
theorem sn_y (hn : n ≤ 40) (post : Int32 → Prop) (H1 : gs_S K n → gs_d K n = 0 → post 1) (H0 : ¬ (gs_S K n ∧ gs_d K n = 0) → post 0) : wpY_sound post (nI n, f, K, A, B, C, V, O, L) := by
  unfold wpY_sound
  dsimp only
  have h := sn_yL (f := f) (A := A) (B := B) (C := C) (V := V) (O := O) (L := L) hn post H1 H0 n 0 (by omega) (gs_S0 K)
  exact ⟨_, h⟩
end
section
variable {f g : Int32} {K A B C V O P Q L : Nat → Int32}
theorem sn_open1 {post : Int32 → SX → Prop} {m : Nat} {q : Int32} (hm : m < 3) (H : post 1 (g, f, nI (m + 1), K, A, B, C, V, O, P, upd Q m q, L)) : wpX_open post (g, f, nI m, K, A, B, C, V, O, P, Q, L) q := by
  have hc : (nI m).toNatClampNeg = m := nI_clamp (by omega)
  unfold wpX_open
  dsimp only
  rw [hc]
  exact br_t (nI_lt (b := 3) hm (by decide)) ⟨vp_in_nI hm (by decide), nm_e (nm_r (nI_1 m) H)⟩
theorem sn_open0 {post : Int32 → SX → Prop} {m : Nat} {q : Int32} (hm : 3 ≤ m) (hm' : m < 100) (H : post 0 (g, f, nI m, K, A, B, C, V, O, P, Q, L)) : wpX_open post (g, f, nI m, K, A, B, C, V, O, P, Q, L) q := by
  unfold wpX_open
  dsimp only
  exact br_f (nI_nlt (b := 3) hm (by omega)) H
theorem sn_div00 {post : Int32 → SX → Prop} {q : Int32} (H : post 0 (g, f, nI 0, K, A, B, C, V, O, P, Q, L)) : wpX_divide post (g, f, nI 0, K, A, B, C, V, O, P, Q, L) q := by
  unfold wpX_divide
  dsimp only
  exact br_t nI_0 H
theorem sn_div1 {post : Int32 → SX → Prop} {m s : Nat} {q : Int32} (hm : m < 3) (hs : s < 40) (hQ : Q m = nI s) (hK : K s = 8) (H : post 1 (g, f, nI (m + 1), K, A, B, C, V, O, upd P s q, upd Q m q, L)) : wpX_divide post (g, f, nI (m + 1), K, A, B, C, V, O, P, Q, L) q := by
  have hc : (nI m).toNatClampNeg = m := nI_clamp (by omega)
  have hcs : (nI s).toNatClampNeg = s := nI_clamp (by omega)
  unfold wpX_divide
  dsimp only
  rw [nI_pred, hc]
  refine br_f (nI_ne0 (by omega) (by omega)) ⟨vp_in_nI hm (by decide), nm_r hQ ⟨vp_in_nI hs (by decide), ?_⟩⟩
  rw [hcs]
  exact br_t hK ⟨vp_in_nI hs (by decide), nm_e ⟨vp_in_nI hm (by decide), nm_e H⟩⟩
theorem sn_div0 {post : Int32 → SX → Prop} {m s : Nat} {q : Int32} (hm : m < 3) (hs : s < 40) (hQ : Q m = nI s) (hK : ¬ K s = 8) (H : post 0 (g, f, nI (m + 1), K, A, B, C, V, O, P, Q, L)) : wpX_divide post (g, f, nI (m + 1), K, A, B, C, V, O, P, Q, L) q := by
  have hc : (nI m).toNatClampNeg = m := nI_clamp (by omega)
  have hcs : (nI s).toNatClampNeg = s := nI_clamp (by omega)
  unfold wpX_divide
  dsimp only
  rw [nI_pred, hc]
  refine br_f (nI_ne0 (by omega) (by omega)) ⟨vp_in_nI hm (by decide), nm_r hQ ⟨vp_in_nI hs (by decide), ?_⟩⟩
  rw [hcs]
  exact br_f hK H
theorem sn_cl0 {post : Int32 → SX → Prop} {q : Int32} (H : post 0 (g, f, nI 0, K, A, B, C, V, O, P, Q, L)) : wpX_close post (g, f, nI 0, K, A, B, C, V, O, P, Q, L) q := by
  unfold wpX_close
  dsimp only
  exact br_t nI_0 H
theorem sn_cl1 {post : Int32 → SX → Prop} {m s p : Nat} (hm : m < 3) (hs : s < 40) (hp : p < 40) (hQ : Q m = nI s) (H : post 1 (g, f, nI m, K, A, B, C, V, O, upd (upd P s (nI p)) p (nI s), Q, L)) : wpX_close post (g, f, nI (m + 1), K, A, B, C, V, O, P, Q, L) (nI p) := by
  have hc : (nI m).toNatClampNeg = m := nI_clamp (by omega)
  have hcs : (nI s).toNatClampNeg = s := nI_clamp (by omega)
  have hcp : (nI p).toNatClampNeg = p := nI_clamp (by omega)
  unfold wpX_close
  dsimp only
  refine br_f (nI_ne0 (by omega) (by omega)) (nm_r (nI_pred m) ⟨vp_in_nI hm (by decide), ?_⟩)
  rw [hc]
  refine nm_r hQ ⟨vp_in_nI hs (by decide), ?_⟩
  rw [hcs, hcp]
  exact nm_e ⟨vp_in_nI hp (by decide), nm_e H⟩
end
section
variable {f : Int32} {K A B C V O L : Nat → Int32} {n : Nat}
/-- pair at a sound place -/
theorem sn_pair (hn : n ≤ 40) {k : Nat} (hk : k < n) (hS : gs_S K k) {P Q : Nat → Int32} (hP : gs_P K k P) (hQ : gs_Q K k Q) (post : Int32 → SX → Prop) (H1 : gs_S K (k + 1) → ∀ P' Q', gs_P K (k + 1) P' → gs_Q K (k + 1) Q' → post 1 (nI n, f, nI (gs_d K (k + 1)).toNat, K, A, B, C, V, O, P', Q', L)) (H0 : ¬ gs_S K (k + 1) → ∀ oc P' Q', post 0 (nI n, f, oc, K, A, B, C, V, O, P', Q', L)) : wpX_pair post (nI n, f, nI (gs_d K k).toNat, K, A, B, C, V, O, P, Q, L) (nI k) := by
  have hd := hS.1 k (by omega)
  have hc : (nI k).toNatClampNeg = k := nI_clamp (by omega)
  have hin : vp_in (nI k) 40 := vp_in_nI (by omega) (by decide)
  unfold wpX_pair
  dsimp only
  rw [hc]
  refine ⟨hin, nm_e ?_⟩
  have op : (K k = 8 ∨ K k = 10) → wX_pair_36 post (nI k) (nI n) f (nI (gs_d K k).toNat) K A B C V O P Q L := by
    intro hop
    unfold wX_pair_36
    by_cases l : gs_d K k < 3
    · have h := gs_open hop l hS hP hQ
      have hd' := gs_up hop
      have e : (gs_d K (k + 1)).toNat = (gs_d K k).toNat + 1 := by omega
      refine sn_open1 (by omega) ?_
      refine ⟨sn_b1, ?_⟩
      rw [← e]
      exact H1 h.1 _ _ h.2.1 h.2.2
    · refine sn_open0 (by omega) (by omega) ?_
      refine ⟨sn_b0, H0 (fun w => ?_) _ _ _⟩
      have := w.1 (k + 1) (by omega)
      have := gs_up hop
      omega
  by_cases h8 : K k = 8
  · exact br_f (by rw [h8]; decide) (br_f (by rw [h8]; decide) (br_t h8 (op (Or.inl h8))))
  · by_cases h10 : K k = 10
    · exact br_f (by rw [h10]; decide) (br_f (by rw [h10]; decide) (br_f h8 (br_f (by rw [h10]; decide) (br_t h10 (op (Or.inr h10))))))
    · have hno : ¬ (K k = 8 ∨ K k = 10) := fun z => z.elim h8 h10
      by_cases h9 : K k = 9
      · refine br_f (by rw [h9]; decide) (br_f (by rw [h9]; decide) (br_f h8 (br_t h9 ?_)))
        have hd' := gs_eq hno (by rw [h9]; exact gs_e911)
        by_cases z : gs_d K k = 0
        · rw [z]
          refine sn_div00 ?_
          refine ⟨sn_b0, H0 (fun w => ?_) _ _ _⟩
          obtain ⟨o, ho, _⟩ := w.2 k (by omega) h9
          have h1 := hS.1 o (by have := ho.1; omega)
          have h2 := ho.2.1
          omega
        · obtain ⟨o, ho⟩ := gs_Oex (K := K) (i := k) (by omega)
          have hok := ho.1
          have hod := ho.2.1
          have ho0 := hS.1 o (by omega)
          obtain ⟨s, hs, es⟩ := hQ o (gs_Op_of ho)
          have hsk := gs_Tlt hs hok
          have e : (gs_d K k).toNat = (gs_d K o).toNat + 1 := by omega
          by_cases hKs : K s = 8
          · have hso : s = o ∧ ∀ e, e < k → K e = 9 → ¬ gs_O K e o := by
              rcases hs with h | ⟨_, h, _⟩
              · exact h
              · rw [hKs] at h; exact absurd h.symm gs_e98
            obtain ⟨hso, hne⟩ := hso
            rw [hso] at hKs es
            have h := gs_else h9 ho hKs hne hS hP hQ
            rw [e]
            refine sn_div1 (s := o) (by omega) (by omega) es hKs ?_
            refine ⟨sn_b1, ?_⟩
            rw [← e, ← hd']
            exact H1 h.1 _ _ h.2.1 h.2.2
          · rw [e]
            refine sn_div0 (s := s) (by omega) (by omega) es hKs ?_
            refine ⟨sn_b0, H0 (fun w => ?_) _ _ _⟩
            obtain ⟨o', h1, h2, h3⟩ := w.2 k (by omega) h9
            have eo := gs_Ouq h1 ho
            rw [eo] at h2 h3
            rcases hs with ⟨h, _⟩ | ⟨h4, h5, h6⟩
            · rw [h] at hKs; exact hKs h2
            · exact h3 s h4 h5 h6
      · by_cases h11 : K k = 11
        · refine br_f (by rw [h11]; decide) (br_f (by rw [h11]; decide) (br_f h8 (br_f h9 (br_f h10 (br_t h11 ?_)))))
          have hd' := gs_dn h11
          by_cases z : gs_d K k = 0
          · rw [z]
            refine sn_cl0 ?_
            refine ⟨sn_b0, H0 (fun w => ?_) _ _ _⟩
            have := w.1 (k + 1) (by omega)
            omega
          · obtain ⟨o, ho⟩ := gs_Oex (K := K) (i := k) (by omega)
            have hok := ho.1
            have hod := ho.2.1
            have ho0 := hS.1 o (by omega)
            obtain ⟨s, hs, es⟩ := hQ o (gs_Op_of ho)
            have hsk := gs_Tlt hs hok
            have e : (gs_d K k).toNat = (gs_d K o).toNat + 1 := by omega
            have e' := gs_Oend h11 ho
            have h := gs_end h11 ho hs hS hP hQ
            rw [e]
            refine sn_cl1 (s := s) (by omega) (by omega) (by omega) es ?_
            refine ⟨sn_b1, ?_⟩
            rw [← e']
            exact H1 h.1 _ _ h.2.1 h.2.2
        · have h := gs_plain hno h9 h11 hS hP hQ
          have hd' := gs_eq hno h11
          have hp := H1 h.1 _ _ h.2.1 h.2.2
          rw [hd'] at hp
          exact br_c (fun _ => hp) (fun _ => br_c (fun _ => hp) (fun _ => br_f h8 (br_f h9 (br_f h10 (br_f h11 trivial)))))
/-- pairAll: the loop -/
theorem sn_xL (hn : n ≤ 40) (post : Int32 → SX → Prop) (H1 : gs_S K n → gs_d K n = 0 → ∀ oc P Q, gs_P K n P → post 1 (nI n, f, oc, K, A, B, C, V, O, P, Q, L)) (H0 : ¬ (gs_S K n ∧ gs_d K n = 0) → ∀ oc P Q, post 0 (nI n, f, oc, K, A, B, C, V, O, P, Q, L)) : ∀ t k, k + t = n → gs_S K k → ∀ P Q, gs_P K k P → gs_Q K k Q → wX_pairAll_7 post (t + 1) (nI k) (nI n) f (nI (gs_d K k).toNat) K A B C V O P Q L := by
  intro t
  induction t with
  | zero =>
    intro k hk hS P Q hP hQ
    have e : k = n := by omega
    subst e
    have hd := hS.1 k (by omega)
    unfold wX_pairAll_7
    refine br_t (nI_le (by omega) (by omega)) ?_
    by_cases z : gs_d K k = 0
    · exact br_t (by rw [z]; exact nI_0) (H1 hS z _ P Q hP)
    · exact br_f (nI_ne0 (by omega) (by omega)) (H0 (fun w => z w.2) _ _ _)
  | succ t ih =>
    intro k hk hS P Q hP hQ
    unfold wX_pairAll_7
    refine br_f (nI_ge (by omega) (by omega)) (sn_pair hn (by omega) hS hP hQ _ (fun hS' P' Q' hP' hQ' => ?_) (fun hS' oc P' Q' => ?_))
    · exact br_f ys_1n0 (nm_r (nI_1 k) (ih (k + 1) (by omega) hS' P' Q' hP' hQ'))
    · exact br_t rfl (H0 (fun w => hS' (gs_Sm w.1 (by omega))) _ _ _)
theorem sn_x (hn : n ≤ 40) (post : Int32 → SX → Prop) (H1 : gs_S K n → gs_d K n = 0 → ∀ oc P Q, gs_P K n P → post 1 (nI n, f, oc, K, A, B, C, V, O, P, Q, L)) (H0 : ¬ (gs_S K n ∧ gs_d K n = 0) → ∀ oc P Q, post 0 (nI n, f, oc, K, A, B, C, V, O, P, Q, L)) (oc : Int32) (P Q : Nat → Int32) : wpX_pairAll post (nI n, f, oc, K, A, B, C, V, O, P, Q, L) := by
  unfold wpX_pairAll
  dsimp only
  have h := sn_xL hn post H1 H0 n 0 (by omega) (gs_S0 K) P Q ⟨fun o e he => by omega, fun o c hc => by omega⟩ (fun o ho => by have := ho.1; omega)
  exact ⟨_, h⟩
end
