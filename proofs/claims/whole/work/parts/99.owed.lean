/-- both sides hold the same statements, variables, output and passes left; every statement fits -/
def i_Rel (_ : Nat) (u : SX) (v : SY) : Prop := ∃ (n q : Nat) (oc : Int32) (K A B C V O P Q L : Nat → Int32), u = (nI n, nI q, oc, K, A, B, C, V, O, P, Q, L) ∧ v = (nI n, nI q, K, A, B, C, V, O, L) ∧ n ≤ 40 ∧ q ≤ 5000 ∧ ∀ i, i < n → rn_F (K i) (A i) (B i) (C i)
theorem i_up {k : Nat} {u : SX} {v : SY} (h : i_Rel k u v) : i_Rel (k + 5) u v := h
theorem i_vc0 : wpX_init (fun u => wpY_init (fun v => i_Rel 0 u v)) :=
  ⟨0, 0, 0, fun _ => 0, fun _ => 0, fun _ => 0, fun _ => 0, fun _ => 0, fun _ => 0, fun _ => 0, fun _ => 0, fun _ => 0, rfl, rfl, by omega, by omega, fun i hi => absurd hi (by omega)⟩
theorem ow_F {n : Nat} {K A B C : Nat → Int32} {a b c d : Int32} (hF : ∀ i, i < n → rn_F (K i) (A i) (B i) (C i)) (h : rn_F a b c d) : ∀ i, i < n + 1 → rn_F (upd K n a i) (upd A n b i) (upd B n c i) (upd C n d i) := by
  intro i hi
  by_cases e : i = n
  · rw [e, gs_us, gs_us, gs_us, gs_us]; exact h
  · rw [gs_un e, gs_un e, gs_un e, gs_un e]; exact hF i (by omega)
theorem i_vc_add {k : Nat} {u : SX} {v : SY} (I : i_Rel k u v) (hk : k + 5 ≤ 2560) (v1 : Int32) (v2 : Int32) (v3 : Int32) (v4 : Int32) : wpX_add (fun r u' => wpY_add (fun r' v' => r' = r ∧ i_Rel (k + 5) u' v') v v1 v2 v3 v4) u v1 v2 v3 v4 := by
  obtain ⟨n, q, oc, K, A, B, C, V, O, P, Q, L, rfl, rfl, hn, hq, hF⟩ := I
  unfold wpX_add wpY_add
  dsimp only
  by_cases h : n < 40
  · have hi : vp_in (nI n) 40 := vp_in_nI h (by decide)
    have hc : (nI n).toNatClampNeg = n := nI_clamp (by omega)
    have hne : ¬ nI n = 40 := fun z => by
      have z' : nI n = nI 40 := z
      rw [nI_eq (by omega) (by decide)] at z'
      omega
    rw [hc]
    refine br_t (nI_lt (b := 40) h (by decide)) ?_
    rcases ad_all (g := nI n) (f := nI q) (K := K) (A := A) (B := B) (C := C) (V := V) (O := O) (L := L) (x := v2) (y := v3) (z := v4) v1 with ⟨hf, hX, hY⟩ | ⟨hX, hY⟩
    · refine hX _ (br_f ys_1n0 ⟨hi, nm_e ⟨hi, nm_e ⟨hi, nm_e ⟨hi, nm_e (nm_r (nI_1 n) (br_f hne ?_))⟩⟩⟩⟩)
      refine hY _ (br_f ys_1n0 ⟨hi, nm_e ⟨hi, nm_e ⟨hi, nm_e ⟨hi, nm_e (nm_r (nI_1 n) ⟨rfl, ?_⟩)⟩⟩⟩⟩)
      exact ⟨n + 1, q, oc, _, _, _, _, V, O, P, Q, L, rfl, rfl, by omega, hq, ow_F hF hf⟩
    · exact hX _ (br_t rfl (br_f hne (hY _ (br_t rfl ⟨rfl, n, q, oc, K, A, B, C, V, O, P, Q, L, rfl, rfl, hn, hq, hF⟩))))
  · have e : n = 40 := by omega
    subst e
    exact br_f (nI_nlt (b := 40) (by omega) (by decide)) (br_t rfl ⟨rfl, 40, q, oc, K, A, B, C, V, O, P, Q, L, rfl, rfl, hn, hq, hF⟩)
theorem i_vc_retract {k : Nat} {u : SX} {v : SY} (I : i_Rel k u v) (hk : k + 5 ≤ 2560) : wpX_retract (fun r u' => wpY_retract (fun r' v' => r' = r ∧ i_Rel (k + 5) u' v') v) u := by
  obtain ⟨n, q, oc, K, A, B, C, V, O, P, Q, L, rfl, rfl, hn, hq, hF⟩ := I
  unfold wpX_retract wpY_retract
  dsimp only
  cases n with
  | zero => exact br_t rfl (br_t rfl ⟨rfl, 0, q, oc, K, A, B, C, V, O, P, Q, L, rfl, rfl, hn, hq, hF⟩)
  | succ n =>
    have hne : ¬ nI (n + 1) = 0 := nI_ne0 (by omega) (by omega)
    exact br_f hne (nm_r (nI_pred n) (br_f hne (nm_r (nI_pred n) ⟨rfl, n, q, oc, K, A, B, C, V, O, P, Q, L, rfl, rfl, by omega, hq, fun i hi => hF i (by omega)⟩)))
theorem i_vc_sound {k : Nat} {u : SX} {v : SY} (I : i_Rel k u v) (hk : k + 5 ≤ 2560) : wpX_sound (fun r u' => wpY_sound (fun r' => r' = r ∧ i_Rel (k + 5) u' v) v) u := by
  obtain ⟨n, q, oc, K, A, B, C, V, O, P, Q, L, rfl, rfl, hn, hq, hF⟩ := I
  unfold wpX_sound
  dsimp only
  refine sn_x hn _ (fun hS hd oc P Q hP => ?_) (fun hno oc P Q => ?_) oc P Q
  · refine ⟨sn_b1, sn_y hn _ (fun _ _ => ?_) (fun h => absurd ⟨hS, hd⟩ h)⟩
    exact ⟨rfl, n, q, oc, K, A, B, C, V, O, P, Q, L, rfl, rfl, hn, hq, hF⟩
  · refine ⟨sn_b0, sn_y hn _ (fun hS hd => absurd ⟨hS, hd⟩ hno) (fun _ => ?_)⟩
    exact ⟨rfl, n, q, oc, K, A, B, C, V, O, P, Q, L, rfl, rfl, hn, hq, hF⟩
theorem i_vc_put {k : Nat} {u : SX} {v : SY} (I : i_Rel k u v) (hk : k + 5 ≤ 2560) (v1 : Int32) (v2 : Int32) : wpX_put (fun r u' => wpY_put (fun r' v' => r' = r ∧ i_Rel (k + 5) u' v') v v1 v2) u v1 v2 := by
  obtain ⟨n, q, oc, K, A, B, C, V, O, P, Q, L, rfl, rfl, hn, hq, hF⟩ := I
  unfold wpX_put wpY_put
  dsimp only
  by_cases h : ad_v v1
  · refine ad_x1 h (br_f ys_1n0 ⟨ad_in h, nm_e (ad_y1 h (br_f ys_1n0 ⟨ad_in h, nm_e ⟨rfl, ?_⟩⟩))⟩)
    exact ⟨n, q, oc, K, A, B, C, _, O, P, Q, L, rfl, rfl, hn, hq, hF⟩
  · exact ad_x0 h (br_t rfl (ad_y0 h (br_t rfl ⟨rfl, n, q, oc, K, A, B, C, V, O, P, Q, L, rfl, rfl, hn, hq, hF⟩)))
theorem i_vc_run {k : Nat} {u : SX} {v : SY} (I : i_Rel k u v) (hk : k + 5 ≤ 2560) : wpX_run (fun r u' => wpY_run (fun r' v' => r' = r ∧ i_Rel (k + 5) u' v') v) u := by
  obtain ⟨n, q, oc, K, A, B, C, V, O, P, Q, L, rfl, rfl, hn, hq, hF⟩ := I
  unfold wpX_run wpY_run
  dsimp only
  refine sn_x hn _ (fun hS hd oc P Q hP => ?_) (fun hno oc P Q => ?_) oc P Q
  · obtain ⟨t, s, ht, hG⟩ := rn_all (oc := oc) (Q := Q) (A := A) (B := B) (C := C) ⟨hn, hS, hd, hP, hF⟩ (0, V, O, L)
    have hb := rn_goB t hG
    refine br_f ys_1n0 ⟨_, rr_x hn _ t 0 (0, V, O, L) s hG 0 (by omega) (Nat.le_refl _) (sn_y hn _ (fun _ _ => ?_) (fun h => absurd ⟨hS, hd⟩ h))⟩
    refine br_f ys_1n0 ⟨_, rr_y hn _ t 0 (0, V, O, L) s hG 0 (by omega) (Nat.le_refl _) ?_⟩
    exact ⟨rfl, n, s.1, oc, K, A, B, C, s.2.1, s.2.2.1, P, Q, s.2.2.2, rfl, rfl, hn, by have : (0, V, O, L).1 = 0 := rfl
                                                                                        omega, hF⟩
  · refine br_t rfl (sn_y hn _ (fun hS hd => absurd ⟨hS, hd⟩ hno) (fun _ => br_t rfl ?_))
    exact ⟨rfl, n, q, oc, K, A, B, C, V, O, P, Q, L, rfl, rfl, hn, hq, hF⟩
theorem i_vc_variable {k : Nat} {u : SX} {v : SY} (I : i_Rel k u v) (hk : k + 5 ≤ 2560) (v1 : Int32) : wpX_variable (fun r => wpY_variable (fun r' => r' = r ∧ i_Rel (k + 5) u v) v v1) u v1 := by
  obtain ⟨n, q, oc, K, A, B, C, V, O, P, Q, L, rfl, rfl, hn, hq, hF⟩ := I
  have J : i_Rel (k + 5) (nI n, nI q, oc, K, A, B, C, V, O, P, Q, L) (nI n, nI q, K, A, B, C, V, O, L) := ⟨n, q, oc, K, A, B, C, V, O, P, Q, L, rfl, rfl, hn, hq, hF⟩
  unfold wpX_variable wpY_variable
  dsimp only
  by_cases h : ad_v v1
  · exact ad_x1 h (br_f ys_1n0 ⟨ad_in h, ad_y1 h (br_f ys_1n0 ⟨ad_in h, rfl, J⟩)⟩)
  · exact ad_x0 h (br_t rfl (ad_y0 h (br_t rfl ⟨rfl, J⟩)))
theorem i_vc_printed {k : Nat} {u : SX} {v : SY} (I : i_Rel k u v) (hk : k + 5 ≤ 2560) : wpX_printed (fun r => wpY_printed (fun r' => r' = r ∧ i_Rel (k + 5) u v) v) u := by
  have J : i_Rel (k + 5) u v := I
  obtain ⟨n, q, oc, K, A, B, C, V, O, P, Q, L, rfl, rfl, hn, hq, hF⟩ := I
  exact ⟨rfl, J⟩
theorem i_vc_output {k : Nat} {u : SX} {v : SY} (I : i_Rel k u v) (hk : k + 5 ≤ 2560) (v1 : Int32) : wpX_output (fun r => wpY_output (fun r' => r' = r ∧ i_Rel (k + 5) u v) v v1) u v1 := by
  have J : i_Rel (k + 5) u v := I
  obtain ⟨n, q, oc, K, A, B, C, V, O, P, Q, L, rfl, rfl, hn, hq, hF⟩ := I
  unfold wpX_output wpY_output
  dsimp only
  by_cases h0 : v1 < 0
  · exact br_t h0 (br_t h0 ⟨rfl, J⟩)
  · by_cases h1 : nI q ≤ v1
    · exact br_f h0 (br_t h1 (br_f h0 (br_t h1 ⟨rfl, J⟩)))
    · obtain ⟨j, hj, e⟩ := nI_of h0
      by_cases h2 : j < 64
      · have hi : vp_in v1 64 := by rw [e]; exact vp_in_nI h2 (by decide)
        exact br_f h0 (br_f h1 (br_t (by rw [e]; exact nI_lt (b := 64) h2 (by decide)) ⟨hi, br_f h0 (br_f h1 (br_f (by rw [e]; exact nI_ge (b := 64) h2 (by decide)) ⟨hi, rfl, J⟩))⟩))
      · exact br_f h0 (br_f h1 (br_f (by rw [e]; exact nI_nlt (b := 64) (by omega) (by omega)) (br_f h0 (br_f h1 (br_t (by rw [e]; exact nI_le (a := 64) (by omega) (by omega)) ⟨rfl, J⟩)))))
theorem i_vc_clear {k : Nat} {u : SX} {v : SY} (I : i_Rel k u v) (hk : k + 5 ≤ 2560) : wpX_clear (fun u' => wpY_clear (fun v' => i_Rel (k + 5) u' v') v) u := by
  obtain ⟨n, q, oc, K, A, B, C, V, O, P, Q, L, rfl, rfl, hn, hq, hF⟩ := I
  unfold wpX_clear wpY_clear
  dsimp only
  obtain ⟨V', hX, hY⟩ := rr_clr (oc := oc) (K := K) (A := A) (B := B) (C := C) (O := O) (P := P) (Q := Q) (L := L) 6 0 V (by omega)
  exact ⟨_, hX _ ⟨_, hY _ ⟨0, 0, oc, K, A, B, C, V', O, P, Q, L, rfl, rfl, by omega, by omega, fun i hi => absurd hi (by omega)⟩⟩⟩
