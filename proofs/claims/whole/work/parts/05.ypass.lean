section
variable {f g : Int32} {K A B C V O L : Nat → Int32} {p : Nat}
theorem py_s286 {post : SY → Prop} (hp : p < 40) (h : ¬ K p = 7) (H : post (g, f, K, A, B, C, V, O, L)) : wY_plain_286 post (nI p) g f K A B C V O L := by
  have hc : (nI p).toNatClampNeg = p := nI_clamp (by omega)
  unfold wY_plain_286
  rw [hc]
  exact ⟨vp_in_nI hp (by decide), br_f h H⟩
theorem py_s234 {post : SY → Prop} (hp : p < 40) (h : ¬ K p = 6) (H : wY_plain_286 post (nI p) g f K A B C V O L) : wY_plain_234 post (nI p) g f K A B C V O L := by
  have hc : (nI p).toNatClampNeg = p := nI_clamp (by omega)
  unfold wY_plain_234
  rw [hc]
  exact ⟨vp_in_nI hp (by decide), br_f h H⟩
theorem py_s190 {post : SY → Prop} (hp : p < 40) (h : ¬ K p = 5) (H : wY_plain_234 post (nI p) g f K A B C V O L) : wY_plain_190 post (nI p) g f K A B C V O L := by
  have hc : (nI p).toNatClampNeg = p := nI_clamp (by omega)
  unfold wY_plain_190
  rw [hc]
  exact ⟨vp_in_nI hp (by decide), br_f h H⟩
theorem py_s146 {post : SY → Prop} (hp : p < 40) (h : ¬ K p = 4) (H : wY_plain_190 post (nI p) g f K A B C V O L) : wY_plain_146 post (nI p) g f K A B C V O L := by
  have hc : (nI p).toNatClampNeg = p := nI_clamp (by omega)
  unfold wY_plain_146
  rw [hc]
  exact ⟨vp_in_nI hp (by decide), br_f h H⟩
theorem py_s102 {post : SY → Prop} (hp : p < 40) (h : ¬ K p = 3) (H : wY_plain_146 post (nI p) g f K A B C V O L) : wY_plain_102 post (nI p) g f K A B C V O L := by
  have hc : (nI p).toNatClampNeg = p := nI_clamp (by omega)
  unfold wY_plain_102
  rw [hc]
  exact ⟨vp_in_nI hp (by decide), br_f h H⟩
theorem py_s58 {post : SY → Prop} (hp : p < 40) (h : ¬ K p = 2) (H : wY_plain_102 post (nI p) g f K A B C V O L) : wY_plain_58 post (nI p) g f K A B C V O L := by
  have hc : (nI p).toNatClampNeg = p := nI_clamp (by omega)
  unfold wY_plain_58
  rw [hc]
  exact ⟨vp_in_nI hp (by decide), br_f h H⟩
theorem py_s26 {post : SY → Prop} (hp : p < 40) (h : ¬ K p = 1) (H : wY_plain_58 post (nI p) g f K A B C V O L) : wY_plain_26 post (nI p) g f K A B C V O L := by
  have hc : (nI p).toNatClampNeg = p := nI_clamp (by omega)
  unfold wY_plain_26
  rw [hc]
  exact ⟨vp_in_nI hp (by decide), br_f h H⟩
theorem py_s0 {post : SY → Prop} (hp : p < 40) (h : ¬ K p = 0) (H : wY_plain_26 post (nI p) g f K A B C V O L) : wpY_plain post (g, f, K, A, B, C, V, O, L) (nI p) := by
  have hc : (nI p).toNatClampNeg = p := nI_clamp (by omega)
  unfold wpY_plain
  dsimp only
  rw [hc]
  exact ⟨vp_in_nI hp (by decide), br_f h H⟩
theorem py_p0 {post : SY → Prop} {a : Nat} (hp : p < 40) (ha : a < 6) (hA : A p = nI a) (h : K p = 0) (H : post (g, f, K, A, B, C, upd V a (B p), O, L)) : wpY_plain post (g, f, K, A, B, C, V, O, L) (nI p) := by
  have hc : (nI p).toNatClampNeg = p := nI_clamp (by omega)
  have hi : vp_in (nI p) 40 := vp_in_nI hp (by decide)
  have hca : (nI a).toNatClampNeg = a := nI_clamp (by omega)
  have hia : vp_in (nI a) 6 := vp_in_nI ha (by decide)
  unfold wpY_plain
  dsimp only
  rw [hc, hA, hca]
  exact ⟨hi, br_t h ⟨hi, hi, hia, nm_e (py_s26 hp (by rw [h]; decide) (py_s58 hp (by rw [h]; decide) (py_s102 hp (by rw [h]; decide) (py_s146 hp (by rw [h]; decide) (py_s190 hp (by rw [h]; decide) (py_s234 hp (by rw [h]; decide) (py_s286 hp (by rw [h]; decide) H)))))))⟩⟩
theorem py_p1 {post : SY → Prop} {a b : Nat} (hp : p < 40) (ha : a < 6) (hA : A p = nI a) (hb : b < 6) (hB : B p = nI b) (h : K p = 1) (H : post (g, f, K, A, B, C, upd V a (V b), O, L)) : wpY_plain post (g, f, K, A, B, C, V, O, L) (nI p) := by
  have hc : (nI p).toNatClampNeg = p := nI_clamp (by omega)
  have hi : vp_in (nI p) 40 := vp_in_nI hp (by decide)
  have hca : (nI a).toNatClampNeg = a := nI_clamp (by omega)
  have hia : vp_in (nI a) 6 := vp_in_nI ha (by decide)
  have hcb : (nI b).toNatClampNeg = b := nI_clamp (by omega)
  have hib : vp_in (nI b) 6 := vp_in_nI hb (by decide)
  refine py_s0 hp (by rw [h]; decide) (?_)
  unfold wY_plain_26
  rw [hc, hA, hca, hB, hcb]
  exact ⟨hi, br_t h ⟨hi, hi, hib, hia, nm_e (py_s58 hp (by rw [h]; decide) (py_s102 hp (by rw [h]; decide) (py_s146 hp (by rw [h]; decide) (py_s190 hp (by rw [h]; decide) (py_s234 hp (by rw [h]; decide) (py_s286 hp (by rw [h]; decide) H))))))⟩⟩
theorem py_p2 {post : SY → Prop} {a b c : Nat} (hp : p < 40) (ha : a < 6) (hA : A p = nI a) (hb : b < 6) (hB : B p = nI b) (hcc : c < 6) (hC : C p = nI c) (h : K p = 2) (H : post (g, f, K, A, B, C, upd V a (V b + V c), O, L)) : wpY_plain post (g, f, K, A, B, C, V, O, L) (nI p) := by
  have hc : (nI p).toNatClampNeg = p := nI_clamp (by omega)
  have hi : vp_in (nI p) 40 := vp_in_nI hp (by decide)
  have hca : (nI a).toNatClampNeg = a := nI_clamp (by omega)
  have hia : vp_in (nI a) 6 := vp_in_nI ha (by decide)
  have hcb : (nI b).toNatClampNeg = b := nI_clamp (by omega)
  have hib : vp_in (nI b) 6 := vp_in_nI hb (by decide)
  have hcd : (nI c).toNatClampNeg = c := nI_clamp (by omega)
  have hic : vp_in (nI c) 6 := vp_in_nI hcc (by decide)
  refine py_s0 hp (by rw [h]; decide) (py_s26 hp (by rw [h]; decide) (?_))
  unfold wY_plain_58
  rw [hc, hA, hca, hB, hcb, hC, hcd]
  exact ⟨hi, br_t h ⟨hi, hi, hib, hi, hic, hia, nm_e (py_s102 hp (by rw [h]; decide) (py_s146 hp (by rw [h]; decide) (py_s190 hp (by rw [h]; decide) (py_s234 hp (by rw [h]; decide) (py_s286 hp (by rw [h]; decide) H)))))⟩⟩
theorem py_p3 {post : SY → Prop} {a b c : Nat} (hp : p < 40) (ha : a < 6) (hA : A p = nI a) (hb : b < 6) (hB : B p = nI b) (hcc : c < 6) (hC : C p = nI c) (h : K p = 3) (H : post (g, f, K, A, B, C, upd V a (V b - V c), O, L)) : wpY_plain post (g, f, K, A, B, C, V, O, L) (nI p) := by
  have hc : (nI p).toNatClampNeg = p := nI_clamp (by omega)
  have hi : vp_in (nI p) 40 := vp_in_nI hp (by decide)
  have hca : (nI a).toNatClampNeg = a := nI_clamp (by omega)
  have hia : vp_in (nI a) 6 := vp_in_nI ha (by decide)
  have hcb : (nI b).toNatClampNeg = b := nI_clamp (by omega)
  have hib : vp_in (nI b) 6 := vp_in_nI hb (by decide)
  have hcd : (nI c).toNatClampNeg = c := nI_clamp (by omega)
  have hic : vp_in (nI c) 6 := vp_in_nI hcc (by decide)
  refine py_s0 hp (by rw [h]; decide) (py_s26 hp (by rw [h]; decide) (py_s58 hp (by rw [h]; decide) (?_)))
  unfold wY_plain_102
  rw [hc, hA, hca, hB, hcb, hC, hcd]
  exact ⟨hi, br_t h ⟨hi, hi, hib, hi, hic, hia, nm_e (py_s146 hp (by rw [h]; decide) (py_s190 hp (by rw [h]; decide) (py_s234 hp (by rw [h]; decide) (py_s286 hp (by rw [h]; decide) H))))⟩⟩
theorem py_p4 {post : SY → Prop} {a b c : Nat} (hp : p < 40) (ha : a < 6) (hA : A p = nI a) (hb : b < 6) (hB : B p = nI b) (hcc : c < 6) (hC : C p = nI c) (h : K p = 4) (H : post (g, f, K, A, B, C, upd V a (V b * V c), O, L)) : wpY_plain post (g, f, K, A, B, C, V, O, L) (nI p) := by
  have hc : (nI p).toNatClampNeg = p := nI_clamp (by omega)
  have hi : vp_in (nI p) 40 := vp_in_nI hp (by decide)
  have hca : (nI a).toNatClampNeg = a := nI_clamp (by omega)
  have hia : vp_in (nI a) 6 := vp_in_nI ha (by decide)
  have hcb : (nI b).toNatClampNeg = b := nI_clamp (by omega)
  have hib : vp_in (nI b) 6 := vp_in_nI hb (by decide)
  have hcd : (nI c).toNatClampNeg = c := nI_clamp (by omega)
  have hic : vp_in (nI c) 6 := vp_in_nI hcc (by decide)
  refine py_s0 hp (by rw [h]; decide) (py_s26 hp (by rw [h]; decide) (py_s58 hp (by rw [h]; decide) (py_s102 hp (by rw [h]; decide) (?_))))
  unfold wY_plain_146
  rw [hc, hA, hca, hB, hcb, hC, hcd]
  exact ⟨hi, br_t h ⟨hi, hi, hib, hi, hic, hia, nm_e (py_s190 hp (by rw [h]; decide) (py_s234 hp (by rw [h]; decide) (py_s286 hp (by rw [h]; decide) H)))⟩⟩
theorem py_p5 {post : SY → Prop} {a b c : Nat} (hp : p < 40) (ha : a < 6) (hA : A p = nI a) (hb : b < 6) (hB : B p = nI b) (hcc : c < 6) (hC : C p = nI c) (h : K p = 5) (H : post (g, f, K, A, B, C, upd V a (V b ^^^ V c), O, L)) : wpY_plain post (g, f, K, A, B, C, V, O, L) (nI p) := by
  have hc : (nI p).toNatClampNeg = p := nI_clamp (by omega)
  have hi : vp_in (nI p) 40 := vp_in_nI hp (by decide)
  have hca : (nI a).toNatClampNeg = a := nI_clamp (by omega)
  have hia : vp_in (nI a) 6 := vp_in_nI ha (by decide)
  have hcb : (nI b).toNatClampNeg = b := nI_clamp (by omega)
  have hib : vp_in (nI b) 6 := vp_in_nI hb (by decide)
  have hcd : (nI c).toNatClampNeg = c := nI_clamp (by omega)
  have hic : vp_in (nI c) 6 := vp_in_nI hcc (by decide)
  refine py_s0 hp (by rw [h]; decide) (py_s26 hp (by rw [h]; decide) (py_s58 hp (by rw [h]; decide) (py_s102 hp (by rw [h]; decide) (py_s146 hp (by rw [h]; decide) (?_)))))
  unfold wY_plain_190
  rw [hc, hA, hca, hB, hcb, hC, hcd]
  exact ⟨hi, br_t h ⟨hi, hi, hib, hi, hic, hia, nm_e (py_s234 hp (by rw [h]; decide) (py_s286 hp (by rw [h]; decide) H))⟩⟩
theorem py_p6 {post : SY → Prop} {a b c : Nat} (hp : p < 40) (ha : a < 6) (hA : A p = nI a) (hb : b < 6) (hB : B p = nI b) (hcc : c < 6) (hC : C p = nI c) (h : K p = 6) (H : post (g, f, K, A, B, C, upd V a (if V c ≤ V b then 0 else 1), O, L)) : wpY_plain post (g, f, K, A, B, C, V, O, L) (nI p) := by
  have hc : (nI p).toNatClampNeg = p := nI_clamp (by omega)
  have hi : vp_in (nI p) 40 := vp_in_nI hp (by decide)
  have hca : (nI a).toNatClampNeg = a := nI_clamp (by omega)
  have hia : vp_in (nI a) 6 := vp_in_nI ha (by decide)
  have hcb : (nI b).toNatClampNeg = b := nI_clamp (by omega)
  have hib : vp_in (nI b) 6 := vp_in_nI hb (by decide)
  have hcd : (nI c).toNatClampNeg = c := nI_clamp (by omega)
  have hic : vp_in (nI c) 6 := vp_in_nI hcc (by decide)
  refine py_s0 hp (by rw [h]; decide) (py_s26 hp (by rw [h]; decide) (py_s58 hp (by rw [h]; decide) (py_s102 hp (by rw [h]; decide) (py_s146 hp (by rw [h]; decide) (py_s190 hp (by rw [h]; decide) (?_))))))
  unfold wY_plain_234
  rw [hc, hA, hB, hcb, hC, hcd]
  refine ⟨hi, br_t h ⟨hi, hi, hib, hi, hic, ?_⟩⟩
  unfold wY_plain_285
  rw [hca]
  by_cases z : V c ≤ V b
  · rw [if_pos z] at H
    exact br_t z ⟨hia, nm_e (py_s286 hp (by rw [h]; decide) H)⟩
  · rw [if_neg z] at H
    exact br_f z ⟨hia, nm_e (py_s286 hp (by rw [h]; decide) H)⟩
theorem py_p7 {post : SY → Prop} {a q : Nat} (hp : p < 40) (ha : a < 6) (hA : A p = nI a) (hq : q < 100000) (h : K p = 7) (H : post (g, nI (q + 1), K, A, B, C, V, (if 64 ≤ q then O else upd O q (V a)), L)) : wpY_plain post (g, nI q, K, A, B, C, V, O, L) (nI p) := by
  have hc : (nI p).toNatClampNeg = p := nI_clamp (by omega)
  have hi : vp_in (nI p) 40 := vp_in_nI hp (by decide)
  have hca : (nI a).toNatClampNeg = a := nI_clamp (by omega)
  have hia : vp_in (nI a) 6 := vp_in_nI ha (by decide)
  have hcq : (nI q).toNatClampNeg = q := nI_clamp (by omega)
  refine py_s0 hp (by rw [h]; decide) (py_s26 hp (by rw [h]; decide) (py_s58 hp (by rw [h]; decide) (py_s102 hp (by rw [h]; decide) (py_s146 hp (by rw [h]; decide) (py_s190 hp (by rw [h]; decide) (py_s234 hp (by rw [h]; decide) (?_)))))))
  unfold wY_plain_286
  rw [hc, hA, hca, hcq]
  refine ⟨hi, br_t h ?_⟩
  by_cases z : 64 ≤ q
  · rw [if_pos z] at H
    exact br_t (nI_le (a := 64) z (by omega)) (nm_r (nI_1 q) H)
  · rw [if_neg z] at H
    exact br_f (nI_ge (b := 64) (by omega) (by decide)) ⟨hi, hia, vp_in_nI (by omega) (by decide), nm_e (nm_r (nI_1 q) H)⟩
/-- pass: a plain statement -/
theorem py_plain {post : Int32 → SY → Prop} (hp : p < 40) (h8 : ¬ (K p = 8 ∨ K p = 10)) (h9 : ¬ K p = 9) (h11 : ¬ K p = 11) (H : wpY_plain (fun v => post (nI (p + 1)) v) (g, f, K, A, B, C, V, O, L) (nI p)) : wpY_pass post (g, f, K, A, B, C, V, O, L) (nI p) := by
  have hc : (nI p).toNatClampNeg = p := nI_clamp (by omega)
  have hi : vp_in (nI p) 40 := vp_in_nI hp (by decide)
  unfold wpY_pass
  dsimp only
  refine ys_opens0 hp h8 (br_t rfl ?_)
  unfold wY_pass_17
  rw [hc, nI_1]
  exact ⟨hi, br_f (fun z => h8 (Or.inl z)) ⟨hi, br_f (fun z => h8 (Or.inr z)) ⟨hi, br_f h9 ⟨hi, br_f h11 H⟩⟩⟩⟩
end
section
variable {f : Int32} {K A B C V O L : Nat → Int32} {p n : Nat}
/-- pass: an IFPOS with an ELSE -/
theorem py_ife {post : Int32 → SY → Prop} {a c e : Nat} (hcn : c < n) (hn : n ≤ 40) (ha : a < 6) (hA : A p = nI a) (h : K p = 8) (hKc : K c = 11) (hOc : gs_O K c p) (hie : e < c) (hK : K e = 9) (hO : gs_O K e p) (hf : ∀ k, p < k → k < e → K k = 9 → ∃ o, gs_O K k o ∧ o ≠ p) (H1 : ¬ V a ≤ 0 → post (nI (p + 1)) (nI n, f, K, A, B, C, V, O, L)) (H0 : V a ≤ 0 → post (nI (e + 1)) (nI n, f, K, A, B, C, V, O, L)) : wpY_pass post (nI n, f, K, A, B, C, V, O, L) (nI p) := by
  have hpc := hOc.1
  have hp : p < 40 := by omega
  have hc : (nI p).toNatClampNeg = p := nI_clamp (by omega)
  have hca : (nI a).toNatClampNeg = a := nI_clamp (by omega)
  have hi : vp_in (nI p) 40 := vp_in_nI hp (by decide)
  unfold wpY_pass
  dsimp only
  refine ys_opens1 hp (Or.inl h) (br_f ys_1n0 (ys_end hcn hn hKc hOc _ ?_))
  unfold wY_pass_17
  rw [hc, hA, hca, nI_1 p]
  refine ⟨hi, br_t h (ys_els hcn hn hKc hOc hie hK hO hf _ ⟨hi, vp_in_nI ha (by decide), br_c (fun z => br_t (nI_pos' (by omega)) ?_) H1⟩)⟩
  rw [nI_1 e]
  exact H0 z
theorem py_ifn {post : Int32 → SY → Prop} {a c : Nat} (hcn : c < n) (hn : n ≤ 40) (ha : a < 6) (hA : A p = nI a) (h : K p = 8) (hKc : K c = 11) (hOc : gs_O K c p) (hf : ∀ k, p < k → k < c → K k = 9 → ∃ o, gs_O K k o ∧ o ≠ p) (H1 : ¬ V a ≤ 0 → post (nI (p + 1)) (nI n, f, K, A, B, C, V, O, L)) (H0 : V a ≤ 0 → post (nI (c + 1)) (nI n, f, K, A, B, C, V, O, L)) : wpY_pass post (nI n, f, K, A, B, C, V, O, L) (nI p) := by
  have hpc := hOc.1
  have hp : p < 40 := by omega
  have hc : (nI p).toNatClampNeg = p := nI_clamp (by omega)
  have hca : (nI a).toNatClampNeg = a := nI_clamp (by omega)
  have hi : vp_in (nI p) 40 := vp_in_nI hp (by decide)
  unfold wpY_pass
  dsimp only
  refine ys_opens1 hp (Or.inl h) (br_f ys_1n0 (ys_end hcn hn hKc hOc _ ?_))
  unfold wY_pass_17
  rw [hc, hA, hca, nI_1 p, nI_1 c]
  exact ⟨hi, br_t h (ys_nel hcn hn hKc hOc hf _ ⟨hi, vp_in_nI ha (by decide), br_c (fun z => br_f (by decide) (H0 z)) H1⟩)⟩
theorem py_lo {post : Int32 → SY → Prop} {a c : Nat} (hcn : c < n) (hn : n ≤ 40) (ha : a < 6) (hA : A p = nI a) (h : K p = 10) (hKc : K c = 11) (hOc : gs_O K c p) (H1 : 0 < a → post (nI (p + 1)) (nI n, f, K, A, B, C, V, O, upd L p (nI a))) (H0 : a = 0 → post (nI (c + 1)) (nI n, f, K, A, B, C, V, O, upd L p (nI a))) : wpY_pass post (nI n, f, K, A, B, C, V, O, L) (nI p) := by
  have hpc := hOc.1
  have hp : p < 40 := by omega
  have hc : (nI p).toNatClampNeg = p := nI_clamp (by omega)
  have hi : vp_in (nI p) 40 := vp_in_nI hp (by decide)
  unfold wpY_pass
  dsimp only
  refine ys_opens1 hp (Or.inr h) (br_f ys_1n0 (ys_end hcn hn hKc hOc _ ?_))
  unfold wY_pass_17
  rw [hc, hA, nI_1 p, nI_1 c]
  refine ⟨hi, br_f (by rw [h]; decide) ⟨hi, br_t h ⟨hi, hi, nm_e ⟨hi, ?_⟩⟩⟩⟩
  by_cases z : a = 0
  · exact br_t (by rw [z]; exact nI_0) (H0 z)
  · exact br_f (nI_ne0 (by omega) (by omega)) (H1 (by omega))
theorem py_el {post : Int32 → SY → Prop} {o c : Nat} (hcn : c < n) (hn : n ≤ 40) (hpn : p < n) (h : K p = 9) (hO : gs_O K p o) (hKc : K c = 11) (hOc : gs_O K c o) (H : post (nI (c + 1)) (nI n, f, K, A, B, C, V, O, L)) : wpY_pass post (nI n, f, K, A, B, C, V, O, L) (nI p) := by
  have hp : p < 40 := by omega
  have hc : (nI p).toNatClampNeg = p := nI_clamp (by omega)
  have hi : vp_in (nI p) 40 := vp_in_nI hp (by decide)
  unfold wpY_pass
  dsimp only
  refine ys_opens0 hp (gs_nop9 h) (br_t rfl ?_)
  unfold wY_pass_17
  rw [hc]
  refine ⟨hi, br_f (by rw [h]; decide) ⟨hi, br_f (by rw [h]; decide) ⟨hi, br_t h (ys_opn (by omega) hO _ (ys_end hcn hn hKc hOc _ ?_))⟩⟩⟩
  rw [nI_1 c]
  exact H
theorem py_ei {post : Int32 → SY → Prop} {o : Nat} (hn : n ≤ 40) (hpn : p < n) (h : K p = 11) (hO : gs_O K p o) (hK : K o = 8) (H : post (nI (p + 1)) (nI n, f, K, A, B, C, V, O, L)) : wpY_pass post (nI n, f, K, A, B, C, V, O, L) (nI p) := by
  have hp : p < 40 := by omega
  have hop := hO.1
  have hc : (nI p).toNatClampNeg = p := nI_clamp (by omega)
  have hco : (nI o).toNatClampNeg = o := nI_clamp (by omega)
  have hi : vp_in (nI p) 40 := vp_in_nI hp (by decide)
  unfold wpY_pass
  dsimp only
  refine ys_opens0 hp (gs_nop11 h) (br_t rfl ?_)
  unfold wY_pass_17
  rw [hc, nI_1 p]
  refine ⟨hi, br_f (by rw [h]; decide) ⟨hi, br_f (by rw [h]; decide) ⟨hi, br_f (by rw [h]; decide) ⟨hi, br_t h (ys_opn (by omega) hO _ ⟨vp_in_nI (by omega) (by decide), ?_⟩)⟩⟩⟩⟩
  rw [hco]
  exact br_t hK H
theorem py_eo {post : Int32 → SY → Prop} {o r : Nat} (hn : n ≤ 40) (hpn : p < n) (h : K p = 11) (hO : gs_O K p o) (hK : K o = 10) (hr : r < 100) (hL : L o = nI (r + 1)) (H1 : 0 < r → post (nI (o + 1)) (nI n, f, K, A, B, C, V, O, upd L o (nI r))) (H0 : r = 0 → post (nI (p + 1)) (nI n, f, K, A, B, C, V, O, upd L o (nI r))) : wpY_pass post (nI n, f, K, A, B, C, V, O, L) (nI p) := by
  have hp : p < 40 := by omega
  have hop := hO.1
  have hc : (nI p).toNatClampNeg = p := nI_clamp (by omega)
  have hco : (nI o).toNatClampNeg = o := nI_clamp (by omega)
  have hi : vp_in (nI p) 40 := vp_in_nI hp (by decide)
  have hio : vp_in (nI o) 40 := vp_in_nI (by omega) (by decide)
  unfold wpY_pass
  dsimp only
  refine ys_opens0 hp (gs_nop11 h) (br_t rfl ?_)
  unfold wY_pass_17
  rw [hc, nI_1 p]
  refine ⟨hi, br_f (by rw [h]; decide) ⟨hi, br_f (by rw [h]; decide) ⟨hi, br_f (by rw [h]; decide) ⟨hi, br_t h (ys_opn (by omega) hO _ ⟨hio, ?_⟩)⟩⟩⟩⟩
  rw [hco, hL, nI_pred, nI_1 o]
  refine br_f (by rw [hK]; decide) ⟨hio, hio, nm_e ⟨hio, ?_⟩⟩
  rw [gs_us]
  by_cases z : r = 0
  · exact br_t (by rw [z]; decide) (H0 z)
  · exact br_f (nI_nle (by omega) (by omega)) (H1 (by omega))
end
