/-- a variable's number -/
def ad_v (x : Int32) : Prop := ∃ j, j < 6 ∧ x = nI j
theorem ad_in {x : Int32} (h : ad_v x) : vp_in x 6 := by
  obtain ⟨j, hj, e⟩ := h
  rw [e]; exact vp_in_nI hj (by decide)
theorem ad_x1 {post : Int32 → Prop} {x : Int32} (h : ad_v x) (H : post 1) : wpX_isVariable post x := by
  obtain ⟨j, hj, e⟩ := h
  unfold wpX_isVariable
  rw [e]
  exact br_f (nI_pos (by omega)) (br_f (nI_ge (b := 6) hj (by decide)) H)
theorem ad_x0 {post : Int32 → Prop} {x : Int32} (h : ¬ ad_v x) (H : post 0) : wpX_isVariable post x := by
  unfold wpX_isVariable
  refine br_c (fun _ => H) (fun h0 => br_c (fun _ => H) (fun h6 => absurd ?_ h))
  obtain ⟨j, hj, e⟩ := nI_of h0
  refine ⟨j, ?_, e⟩
  rw [e] at h6
  have h7 : ¬ nI 6 ≤ nI j := h6
  rw [nI_leI (by decide) hj] at h7
  omega
section
variable {v : SY}
theorem ad_y1 {post : Int32 → Prop} {x : Int32} (h : ad_v x) (H : post 1) : wpY_isVariable post v x := by
  obtain ⟨j, hj, e⟩ := h
  obtain ⟨f_n, f_printed, a_kind, a_a, a_b, a_c, a_var, a_out, a_left⟩ := v
  unfold wpY_isVariable
  dsimp only
  rw [e]
  exact br_f (nI_pos (by omega)) (br_f (nI_nlt (a := 5) (by omega) (by decide)) H)
theorem ad_y0 {post : Int32 → Prop} {x : Int32} (h : ¬ ad_v x) (H : post 0) : wpY_isVariable post v x := by
  obtain ⟨f_n, f_printed, a_kind, a_a, a_b, a_c, a_var, a_out, a_left⟩ := v
  unfold wpY_isVariable
  dsimp only
  refine br_c (fun _ => H) (fun h0 => br_c (fun _ => H) (fun h6 => absurd ?_ h))
  obtain ⟨j, hj, e⟩ := nI_of h0
  refine ⟨j, ?_, e⟩
  rw [e] at h6
  have h7 : ¬ nI 5 < nI j := h6
  rw [nI_ltI (by decide) hj] at h7
  omega
end
theorem ad_641 {post : Int32 → Prop} {x : Int32} (h : ad_v x) (H : post 1) : wX_isStatement_64 post x := by
  unfold wX_isStatement_64; exact ad_x1 h ⟨sn_b1, H⟩
theorem ad_640 {post : Int32 → Prop} {x : Int32} (h : ¬ ad_v x) (H : post 0) : wX_isStatement_64 post x := by
  unfold wX_isStatement_64; exact ad_x0 h ⟨sn_b0, H⟩
theorem ad_891 {post : Int32 → Prop} {x y z : Int32} (h1 : ad_v x) (h2 : ad_v y) (h3 : ad_v z) (H : post 1) : wX_isStatement_89 post x y z := by
  unfold wX_isStatement_89
  exact ad_x1 h1 (br_f ys_1n0 (ad_x1 h2 (br_f ys_1n0 (ad_x1 h3 (br_f ys_1n0 H)))))
theorem ad_890 {post : Int32 → Prop} {x y z : Int32} (h : ¬ (ad_v x ∧ ad_v y ∧ ad_v z)) (H : post 0) : wX_isStatement_89 post x y z := by
  unfold wX_isStatement_89
  by_cases h1 : ad_v x
  · by_cases h2 : ad_v y
    · exact ad_x1 h1 (br_f ys_1n0 (ad_x1 h2 (br_f ys_1n0 (ad_x0 (fun h3 => h ⟨h1, h2, h3⟩) (br_t rfl H)))))
    · exact ad_x1 h1 (br_f ys_1n0 (ad_x0 h2 (br_t rfl H)))
  · exact ad_x0 h1 (br_t rfl H)
/-- what is owed of a kind: both answer 1 and it fits, or both answer 0 -/
def ad_R (v : SY) (k x y z : Int32) : Prop :=
  (rn_F k x y z ∧ (∀ post : Int32 → Prop, post 1 → wpX_isStatement post k x y z) ∧ (∀ post : Int32 → Prop, post 1 → wpY_fits post v k x y z)) ∨ ((∀ post : Int32 → Prop, post 0 → wpX_isStatement post k x y z) ∧ (∀ post : Int32 → Prop, post 0 → wpY_fits post v k x y z))
section
variable {g f : Int32} {K A B C V O L : Nat → Int32} {x y z : Int32}
theorem ad_k0 : ad_R (g, f, K, A, B, C, V, O, L) 0 x y z := by
  by_cases h : ad_v x
  · refine Or.inl ⟨⟨0, by omega, by decide, fun _ _ => h, fun a b => by omega, fun a b => by omega⟩, fun post H => ?_, fun post H => ?_⟩
    · unfold wpX_isStatement; exact br_f (by decide) (br_f (by decide) (br_t rfl (ad_641 h H)))
    · unfold wpY_fits; exact br_f (by decide) (br_t (by decide) (br_f (by decide) (br_f (by decide) (ad_y1 h (br_f ys_1n0 (br_f (by decide) (br_t (by decide) H)))))))
  · refine Or.inr ⟨fun post H => ?_, fun post H => ?_⟩
    · unfold wpX_isStatement; exact br_f (by decide) (br_f (by decide) (br_t rfl (ad_640 h H)))
    · unfold wpY_fits; exact br_f (by decide) (br_t (by decide) (br_f (by decide) (br_f (by decide) (ad_y0 h (br_t rfl H)))))
theorem ad_k1 : ad_R (g, f, K, A, B, C, V, O, L) 1 x y z := by
  by_cases h : ad_v x
  · by_cases h' : ad_v y
    · refine Or.inl ⟨⟨1, by omega, by decide, fun _ _ => h, fun _ _ => h', fun a b => by omega⟩, fun post H => ?_, fun post H => ?_⟩
      · unfold wpX_isStatement; exact br_f (by decide) (br_f (by decide) (br_f (by decide) (br_t rfl (ad_x1 h (br_f ys_1n0 (ad_x1 h' (br_f ys_1n0 H)))))))
      · unfold wpY_fits; exact br_f (by decide) (br_t (by decide) (br_f (by decide) (br_f (by decide) (ad_y1 h (br_f ys_1n0 (br_t rfl (ad_y1 h' ⟨sn_b1, H⟩)))))))
    · refine Or.inr ⟨fun post H => ?_, fun post H => ?_⟩
      · unfold wpX_isStatement; exact br_f (by decide) (br_f (by decide) (br_f (by decide) (br_t rfl (ad_x1 h (br_f ys_1n0 (ad_x0 h' (br_t rfl H)))))))
      · unfold wpY_fits; exact br_f (by decide) (br_t (by decide) (br_f (by decide) (br_f (by decide) (ad_y1 h (br_f ys_1n0 (br_t rfl (ad_y0 h' ⟨sn_b0, H⟩)))))))
  · refine Or.inr ⟨fun post H => ?_, fun post H => ?_⟩
    · unfold wpX_isStatement; exact br_f (by decide) (br_f (by decide) (br_f (by decide) (br_t rfl (ad_x0 h (br_t rfl H)))))
    · unfold wpY_fits; exact br_f (by decide) (br_t (by decide) (br_f (by decide) (br_f (by decide) (ad_y0 h (br_t rfl H)))))
theorem ad_k2 : ad_R (g, f, K, A, B, C, V, O, L) 2 x y z := by
  by_cases h : ad_v x ∧ ad_v y ∧ ad_v z
  · obtain ⟨h1, h2, h3⟩ := h
    refine Or.inl ⟨⟨2, by omega, by decide, fun _ _ => h1, fun _ _ => h2, fun _ _ => h3⟩, fun post H => ?_, fun post H => ?_⟩
    · unfold wpX_isStatement; exact br_f (by decide) (br_f (by decide) (br_f (by decide) (br_f (by decide) (br_t rfl (ad_891 h1 h2 h3 H)))))
    · unfold wpY_fits; exact br_f (by decide) (br_t (by decide) (br_f (by decide) (br_f (by decide) (ad_y1 h1 (br_f ys_1n0 (br_f (by decide) (br_f (by decide) (br_f (by decide) (ad_y1 h2 (br_f ys_1n0 (ad_y1 h3 (br_f ys_1n0 H))))))))))))
  · refine Or.inr ⟨fun post H => ?_, fun post H => ?_⟩
    · unfold wpX_isStatement; exact br_f (by decide) (br_f (by decide) (br_f (by decide) (br_f (by decide) (br_t rfl (ad_890 h H)))))
    · unfold wpY_fits
      refine br_f (by decide) (br_t (by decide) (br_f (by decide) (br_f (by decide) (?_))))
      by_cases h1 : ad_v x
      · refine ad_y1 h1 (br_f ys_1n0 (br_f (by decide) (br_f (by decide) (br_f (by decide) ?_))))
        by_cases h2 : ad_v y
        · exact ad_y1 h2 (br_f ys_1n0 (ad_y0 (fun h3 => h ⟨h1, h2, h3⟩) (br_t rfl H)))
        · exact ad_y0 h2 (br_t rfl H)
      · exact ad_y0 h1 (br_t rfl H)
theorem ad_k3 : ad_R (g, f, K, A, B, C, V, O, L) 3 x y z := by
  by_cases h : ad_v x ∧ ad_v y ∧ ad_v z
  · obtain ⟨h1, h2, h3⟩ := h
    refine Or.inl ⟨⟨3, by omega, by decide, fun _ _ => h1, fun _ _ => h2, fun _ _ => h3⟩, fun post H => ?_, fun post H => ?_⟩
    · unfold wpX_isStatement; exact br_f (by decide) (br_f (by decide) (br_f (by decide) (br_f (by decide) (br_f (by decide) (br_t rfl (ad_891 h1 h2 h3 H))))))
    · unfold wpY_fits; exact br_f (by decide) (br_t (by decide) (br_f (by decide) (br_f (by decide) (ad_y1 h1 (br_f ys_1n0 (br_f (by decide) (br_f (by decide) (br_f (by decide) (ad_y1 h2 (br_f ys_1n0 (ad_y1 h3 (br_f ys_1n0 H))))))))))))
  · refine Or.inr ⟨fun post H => ?_, fun post H => ?_⟩
    · unfold wpX_isStatement; exact br_f (by decide) (br_f (by decide) (br_f (by decide) (br_f (by decide) (br_f (by decide) (br_t rfl (ad_890 h H))))))
    · unfold wpY_fits
      refine br_f (by decide) (br_t (by decide) (br_f (by decide) (br_f (by decide) (?_))))
      by_cases h1 : ad_v x
      · refine ad_y1 h1 (br_f ys_1n0 (br_f (by decide) (br_f (by decide) (br_f (by decide) ?_))))
        by_cases h2 : ad_v y
        · exact ad_y1 h2 (br_f ys_1n0 (ad_y0 (fun h3 => h ⟨h1, h2, h3⟩) (br_t rfl H)))
        · exact ad_y0 h2 (br_t rfl H)
      · exact ad_y0 h1 (br_t rfl H)
theorem ad_k4 : ad_R (g, f, K, A, B, C, V, O, L) 4 x y z := by
  by_cases h : ad_v x ∧ ad_v y ∧ ad_v z
  · obtain ⟨h1, h2, h3⟩ := h
    refine Or.inl ⟨⟨4, by omega, by decide, fun _ _ => h1, fun _ _ => h2, fun _ _ => h3⟩, fun post H => ?_, fun post H => ?_⟩
    · unfold wpX_isStatement; exact br_f (by decide) (br_f (by decide) (br_f (by decide) (br_f (by decide) (br_f (by decide) (br_f (by decide) (br_t rfl (ad_891 h1 h2 h3 H)))))))
    · unfold wpY_fits; exact br_f (by decide) (br_t (by decide) (br_f (by decide) (br_f (by decide) (ad_y1 h1 (br_f ys_1n0 (br_f (by decide) (br_f (by decide) (br_f (by decide) (ad_y1 h2 (br_f ys_1n0 (ad_y1 h3 (br_f ys_1n0 H))))))))))))
  · refine Or.inr ⟨fun post H => ?_, fun post H => ?_⟩
    · unfold wpX_isStatement; exact br_f (by decide) (br_f (by decide) (br_f (by decide) (br_f (by decide) (br_f (by decide) (br_f (by decide) (br_t rfl (ad_890 h H)))))))
    · unfold wpY_fits
      refine br_f (by decide) (br_t (by decide) (br_f (by decide) (br_f (by decide) (?_))))
      by_cases h1 : ad_v x
      · refine ad_y1 h1 (br_f ys_1n0 (br_f (by decide) (br_f (by decide) (br_f (by decide) ?_))))
        by_cases h2 : ad_v y
        · exact ad_y1 h2 (br_f ys_1n0 (ad_y0 (fun h3 => h ⟨h1, h2, h3⟩) (br_t rfl H)))
        · exact ad_y0 h2 (br_t rfl H)
      · exact ad_y0 h1 (br_t rfl H)
theorem ad_k5 : ad_R (g, f, K, A, B, C, V, O, L) 5 x y z := by
  by_cases h : ad_v x ∧ ad_v y ∧ ad_v z
  · obtain ⟨h1, h2, h3⟩ := h
    refine Or.inl ⟨⟨5, by omega, by decide, fun _ _ => h1, fun _ _ => h2, fun _ _ => h3⟩, fun post H => ?_, fun post H => ?_⟩
    · unfold wpX_isStatement; exact br_f (by decide) (br_f (by decide) (br_f (by decide) (br_f (by decide) (br_f (by decide) (br_f (by decide) (br_f (by decide) (br_t rfl (ad_891 h1 h2 h3 H))))))))
    · unfold wpY_fits; exact br_f (by decide) (br_t (by decide) (br_f (by decide) (br_f (by decide) (ad_y1 h1 (br_f ys_1n0 (br_f (by decide) (br_f (by decide) (br_f (by decide) (ad_y1 h2 (br_f ys_1n0 (ad_y1 h3 (br_f ys_1n0 H))))))))))))
  · refine Or.inr ⟨fun post H => ?_, fun post H => ?_⟩
    · unfold wpX_isStatement; exact br_f (by decide) (br_f (by decide) (br_f (by decide) (br_f (by decide) (br_f (by decide) (br_f (by decide) (br_f (by decide) (br_t rfl (ad_890 h H))))))))
    · unfold wpY_fits
      refine br_f (by decide) (br_t (by decide) (br_f (by decide) (br_f (by decide) (?_))))
      by_cases h1 : ad_v x
      · refine ad_y1 h1 (br_f ys_1n0 (br_f (by decide) (br_f (by decide) (br_f (by decide) ?_))))
        by_cases h2 : ad_v y
        · exact ad_y1 h2 (br_f ys_1n0 (ad_y0 (fun h3 => h ⟨h1, h2, h3⟩) (br_t rfl H)))
        · exact ad_y0 h2 (br_t rfl H)
      · exact ad_y0 h1 (br_t rfl H)
theorem ad_k6 : ad_R (g, f, K, A, B, C, V, O, L) 6 x y z := by
  by_cases h : ad_v x ∧ ad_v y ∧ ad_v z
  · obtain ⟨h1, h2, h3⟩ := h
    refine Or.inl ⟨⟨6, by omega, by decide, fun _ _ => h1, fun _ _ => h2, fun _ _ => h3⟩, fun post H => ?_, fun post H => ?_⟩
    · unfold wpX_isStatement; exact br_f (by decide) (br_f (by decide) (br_f (by decide) (br_f (by decide) (br_f (by decide) (br_f (by decide) (br_f (by decide) (br_f (by decide) (br_t rfl (ad_891 h1 h2 h3 H)))))))))
    · unfold wpY_fits; exact br_f (by decide) (br_t (by decide) (br_f (by decide) (br_f (by decide) (ad_y1 h1 (br_f ys_1n0 (br_f (by decide) (br_f (by decide) (br_f (by decide) (ad_y1 h2 (br_f ys_1n0 (ad_y1 h3 (br_f ys_1n0 H))))))))))))
  · refine Or.inr ⟨fun post H => ?_, fun post H => ?_⟩
    · unfold wpX_isStatement; exact br_f (by decide) (br_f (by decide) (br_f (by decide) (br_f (by decide) (br_f (by decide) (br_f (by decide) (br_f (by decide) (br_f (by decide) (br_t rfl (ad_890 h H)))))))))
    · unfold wpY_fits
      refine br_f (by decide) (br_t (by decide) (br_f (by decide) (br_f (by decide) (?_))))
      by_cases h1 : ad_v x
      · refine ad_y1 h1 (br_f ys_1n0 (br_f (by decide) (br_f (by decide) (br_f (by decide) ?_))))
        by_cases h2 : ad_v y
        · exact ad_y1 h2 (br_f ys_1n0 (ad_y0 (fun h3 => h ⟨h1, h2, h3⟩) (br_t rfl H)))
        · exact ad_y0 h2 (br_t rfl H)
      · exact ad_y0 h1 (br_t rfl H)
theorem ad_k7 : ad_R (g, f, K, A, B, C, V, O, L) 7 x y z := by
  by_cases h : ad_v x
  · refine Or.inl ⟨⟨7, by omega, by decide, fun _ _ => h, fun a b => by omega, fun a b => by omega⟩, fun post H => ?_, fun post H => ?_⟩
    · unfold wpX_isStatement; exact br_f (by decide) (br_f (by decide) (br_f (by decide) (br_f (by decide) (br_f (by decide) (br_f (by decide) (br_f (by decide) (br_f (by decide) (br_f (by decide) (br_t rfl (ad_641 h H))))))))))
    · unfold wpY_fits; exact br_f (by decide) (br_t (by decide) (br_f (by decide) (br_f (by decide) (ad_y1 h (br_f ys_1n0 (br_f (by decide) (br_f (by decide) (br_t (by decide) H))))))))
  · refine Or.inr ⟨fun post H => ?_, fun post H => ?_⟩
    · unfold wpX_isStatement; exact br_f (by decide) (br_f (by decide) (br_f (by decide) (br_f (by decide) (br_f (by decide) (br_f (by decide) (br_f (by decide) (br_f (by decide) (br_f (by decide) (br_t rfl (ad_640 h H))))))))))
    · unfold wpY_fits; exact br_f (by decide) (br_t (by decide) (br_f (by decide) (br_f (by decide) (ad_y0 h (br_t rfl H)))))
theorem ad_k8 : ad_R (g, f, K, A, B, C, V, O, L) 8 x y z := by
  by_cases h : ad_v x
  · refine Or.inl ⟨⟨8, by omega, by decide, fun _ _ => h, fun a b => by omega, fun a b => by omega⟩, fun post H => ?_, fun post H => ?_⟩
    · unfold wpX_isStatement; exact br_f (by decide) (br_f (by decide) (br_f (by decide) (br_f (by decide) (br_f (by decide) (br_f (by decide) (br_f (by decide) (br_f (by decide) (br_f (by decide) (br_f (by decide) (br_t rfl (ad_641 h H)))))))))))
    · unfold wpY_fits; exact br_f (by decide) (br_t (by decide) (br_f (by decide) (br_f (by decide) (ad_y1 h (br_f ys_1n0 (br_f (by decide) (br_f (by decide) (br_t (by decide) H))))))))
  · refine Or.inr ⟨fun post H => ?_, fun post H => ?_⟩
    · unfold wpX_isStatement; exact br_f (by decide) (br_f (by decide) (br_f (by decide) (br_f (by decide) (br_f (by decide) (br_f (by decide) (br_f (by decide) (br_f (by decide) (br_f (by decide) (br_f (by decide) (br_t rfl (ad_640 h H)))))))))))
    · unfold wpY_fits; exact br_f (by decide) (br_t (by decide) (br_f (by decide) (br_f (by decide) (ad_y0 h (br_t rfl H)))))
theorem ad_k9 : ad_R (g, f, K, A, B, C, V, O, L) 9 x y z := by
  refine Or.inl ⟨⟨9, by omega, by decide, fun a b => by omega, fun a b => by omega, fun a b => by omega⟩, fun post H => ?_, fun post H => ?_⟩
  · unfold wpX_isStatement; exact br_f (by decide) (br_f (by decide) (br_f (by decide) (br_f (by decide) (br_f (by decide) (br_f (by decide) (br_f (by decide) (br_f (by decide) (br_f (by decide) (br_f (by decide) (br_f (by decide) (br_t rfl (H))))))))))))
  · unfold wpY_fits; exact br_f (by decide) (br_t (by decide) (br_t rfl H))
theorem ad_k10 : ad_R (g, f, K, A, B, C, V, O, L) 10 x y z := by
  by_cases h : ad_v x
  · refine Or.inl ⟨⟨10, by omega, by decide, fun _ _ => h, fun a b => by omega, fun a b => by omega⟩, fun post H => ?_, fun post H => ?_⟩
    · unfold wpX_isStatement; exact br_f (by decide) (br_f (by decide) (br_f (by decide) (br_f (by decide) (br_f (by decide) (br_f (by decide) (br_f (by decide) (br_f (by decide) (br_f (by decide) (br_f (by decide) (br_f (by decide) (br_f (by decide) (br_t rfl (by obtain ⟨j, hj, e⟩ := h; rw [e]; exact br_f (nI_pos (by omega)) (br_f (nI_nlt (a := 5) (by omega) (by decide)) H))))))))))))))
    · unfold wpY_fits; exact br_f (by decide) (br_t (by decide) (br_f (by decide) (br_f (by decide) (ad_y1 h (br_f ys_1n0 (br_f (by decide) (br_f (by decide) (br_t (by decide) H))))))))
  · refine Or.inr ⟨fun post H => ?_, fun post H => ?_⟩
    · unfold wpX_isStatement; exact br_f (by decide) (br_f (by decide) (br_f (by decide) (br_f (by decide) (br_f (by decide) (br_f (by decide) (br_f (by decide) (br_f (by decide) (br_f (by decide) (br_f (by decide) (br_f (by decide) (br_f (by decide) (br_t rfl (br_c (fun _ => H) (fun h0 => br_c (fun _ => H) (fun h6 => absurd (by
      obtain ⟨j, hj, e⟩ := nI_of h0
      refine ⟨j, ?_, e⟩
      rw [e] at h6
      have h7 : ¬ nI 5 < nI j := h6
      rw [nI_ltI (by decide) hj] at h7
      omega) h)))))))))))))))
    · unfold wpY_fits; exact br_f (by decide) (br_t (by decide) (br_f (by decide) (br_f (by decide) (ad_y0 h (br_t rfl H)))))
theorem ad_k11 : ad_R (g, f, K, A, B, C, V, O, L) 11 x y z := by
  refine Or.inl ⟨⟨11, by omega, by decide, fun a b => by omega, fun a b => by omega, fun a b => by omega⟩, fun post H => ?_, fun post H => ?_⟩
  · unfold wpX_isStatement; exact br_f (by decide) (br_f (by decide) (br_f (by decide) (br_f (by decide) (br_f (by decide) (br_f (by decide) (br_f (by decide) (br_f (by decide) (br_f (by decide) (br_f (by decide) (br_f (by decide) (br_f (by decide) (br_f (by decide) (br_t rfl (H))))))))))))))
  · unfold wpY_fits; exact br_f (by decide) (br_t (by decide) (br_f (by decide) (br_t rfl H)))
theorem ad_all (k : Int32) : ad_R (g, f, K, A, B, C, V, O, L) k x y z := by
  by_cases h0 : k < 0
  · refine Or.inr ⟨fun post H => ?_, fun post H => ?_⟩
    · unfold wpX_isStatement; exact br_t h0 H
    · unfold wpY_fits; exact br_t h0 H
  · obtain ⟨j, hj, e⟩ := nI_of h0
    by_cases h11 : 11 < j
    · refine Or.inr ⟨fun post H => ?_, fun post H => ?_⟩
      · unfold wpX_isStatement; rw [e]; exact br_f (nI_pos hj) (br_t (nI_lt (a := 11) h11 hj) H)
      · unfold wpY_fits; rw [e]; exact br_f (nI_pos hj) (br_f (nI_ge (a := 11) h11 hj) H)
    · have c0 : j = 0 ∨ j = 1 ∨ j = 2 ∨ j = 3 ∨ j = 4 ∨ j = 5 ∨ j = 6 ∨ j = 7 ∨ j = 8 ∨ j = 9 ∨ j = 10 ∨ j = 11 := by omega
      rcases c0 with c | c | c | c | c | c | c | c | c | c | c | c <;> rw [e, c]
      · exact ad_k0
      · exact ad_k1
      · exact ad_k2
      · exact ad_k3
      · exact ad_k4
      · exact ad_k5
      · exact ad_k6
      · exact ad_k7
      · exact ad_k8
      · exact ad_k9
      · exact ad_k10
      · exact ad_k11
end
