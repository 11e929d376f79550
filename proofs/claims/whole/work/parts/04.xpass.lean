section
variable {f g oc : Int32} {K A B C V O P Q L : Nat → Int32} {p : Nat}
theorem ps_cmb2 {post : Int32 → Prop} {k l r : Int32} (h : k = 2) (H : post (l + r)) : wpX_combine post k l r := by
  unfold wpX_combine; rw [h]; exact br_f (by decide) (br_f (by decide) (br_t rfl H))
theorem ps_cmb3 {post : Int32 → Prop} {k l r : Int32} (h : k = 3) (H : post (l - r)) : wpX_combine post k l r := by
  unfold wpX_combine; rw [h]; exact br_f (by decide) (br_f (by decide) (br_f (by decide) (br_t rfl H)))
theorem ps_cmb4 {post : Int32 → Prop} {k l r : Int32} (h : k = 4) (H : post (l * r)) : wpX_combine post k l r := by
  unfold wpX_combine; rw [h]; exact br_f (by decide) (br_f (by decide) (br_f (by decide) (br_f (by decide) (br_t rfl H))))
theorem ps_cmb5 {post : Int32 → Prop} {k l r : Int32} (h : k = 5) (H : post (l ^^^ r)) : wpX_combine post k l r := by
  unfold wpX_combine; rw [h]; exact br_f (by decide) (br_f (by decide) (br_f (by decide) (br_f (by decide) (br_f (by decide) (br_t rfl H)))))
theorem ps_cmb6a {post : Int32 → Prop} {k l r : Int32} (h : k = 6) (z : r ≤ l) (H : post 0) : wpX_combine post k l r := by
  unfold wpX_combine; rw [h]; exact br_f (by decide) (br_t (by decide) (br_t z H))
theorem ps_cmb6b {post : Int32 → Prop} {k l r : Int32} (h : k = 6) (z : ¬ r ≤ l) (H : post 1) : wpX_combine post k l r := by
  unfold wpX_combine; rw [h]; exact br_f (by decide) (br_t (by decide) (br_f z H))
/-- assign: SET -/
theorem ps_as0 {post : SX → Prop} {a : Nat} (hp : p < 40) (ha : a < 6) (hA : A p = nI a) (h : K p = 0) (H : post (g, f, oc, K, A, B, C, upd V a (B p), O, P, Q, L)) : wpX_assign post (g, f, oc, K, A, B, C, V, O, P, Q, L) (nI p) := by
  have hc : (nI p).toNatClampNeg = p := nI_clamp (by omega)
  have hi : vp_in (nI p) 40 := vp_in_nI hp (by decide)
  have hca : (nI a).toNatClampNeg = a := nI_clamp (by omega)
  unfold wpX_assign
  dsimp only
  rw [hc]
  refine ⟨hi, nm_r hA ⟨hi, nm_e ⟨hi, nm_r h (br_t rfl ⟨vp_in_nI ha (by decide), ?_⟩)⟩⟩⟩
  rw [hca]
  exact nm_e H
/-- assign: COPY -/
theorem ps_as1 {post : SX → Prop} {a b : Nat} (hp : p < 40) (ha : a < 6) (hA : A p = nI a) (hb : b < 6) (hB : B p = nI b) (h : K p = 1) (H : post (g, f, oc, K, A, B, C, upd V a (V b), O, P, Q, L)) : wpX_assign post (g, f, oc, K, A, B, C, V, O, P, Q, L) (nI p) := by
  have hc : (nI p).toNatClampNeg = p := nI_clamp (by omega)
  have hi : vp_in (nI p) 40 := vp_in_nI hp (by decide)
  have hca : (nI a).toNatClampNeg = a := nI_clamp (by omega)
  have hcb : (nI b).toNatClampNeg = b := nI_clamp (by omega)
  unfold wpX_assign
  dsimp only
  rw [hc]
  refine ⟨hi, nm_r hA ⟨hi, nm_r hB ⟨hi, nm_r h (br_f (by decide) (br_t rfl ⟨vp_in_nI hb (by decide), vp_in_nI ha (by decide), ?_⟩))⟩⟩⟩
  rw [hca, hcb]
  exact nm_e H
/-- assign: what combines -/
theorem ps_as2 {post : SX → Prop} {a b c : Nat} (hp : p < 40) (ha : a < 6) (hA : A p = nI a) (hb : b < 6) (hB : B p = nI b) (hcc : c < 6) (hC : C p = nI c) (h0 : ¬ K p = 0) (h1 : ¬ K p = 1) (w : Int32) (hw : ∀ post : Int32 → Prop, post w → wpX_combine post (K p) (V b) (V c)) (H : post (g, f, oc, K, A, B, C, upd V a w, O, P, Q, L)) : wpX_assign post (g, f, oc, K, A, B, C, V, O, P, Q, L) (nI p) := by
  have hc : (nI p).toNatClampNeg = p := nI_clamp (by omega)
  have hi : vp_in (nI p) 40 := vp_in_nI hp (by decide)
  have hca : (nI a).toNatClampNeg = a := nI_clamp (by omega)
  have hcb : (nI b).toNatClampNeg = b := nI_clamp (by omega)
  have hcd : (nI c).toNatClampNeg = c := nI_clamp (by omega)
  unfold wpX_assign
  dsimp only
  rw [hc, hC]
  refine ⟨hi, nm_r hA ⟨hi, nm_r hB ⟨hi, nm_e (br_f h0 (br_f h1 ⟨hi, vp_in_nI hb (by decide), hi, vp_in_nI hcc (by decide), ?_⟩))⟩⟩⟩
  rw [hca, hcb, hcd]
  exact hw _ ⟨vp_in_nI ha (by decide), nm_e H⟩
/-- pass: what assigns -/
theorem ps_xas {post : Int32 → SX → Prop} (hp : p < 40) (h : K p < 7) (H : wpX_assign (fun u => post (nI (p + 1)) u) (g, f, oc, K, A, B, C, V, O, P, Q, L) (nI p)) : wpX_pass post (g, f, oc, K, A, B, C, V, O, P, Q, L) (nI p) := by
  have hc : (nI p).toNatClampNeg = p := nI_clamp (by omega)
  have hi : vp_in (nI p) 40 := vp_in_nI hp (by decide)
  unfold wpX_pass
  dsimp only
  rw [hc, nI_1]
  exact ⟨hi, nm_e (br_t h H)⟩
theorem ps_xpr {post : Int32 → SX → Prop} {a q : Nat} (hp : p < 40) (ha : a < 6) (hA : A p = nI a) (hq : q < 100000) (h : K p = 7) (H : post (nI (p + 1)) (g, nI (q + 1), oc, K, A, B, C, V, (if 64 ≤ q then O else upd O q (V a)), P, Q, L)) : wpX_pass post (g, nI q, oc, K, A, B, C, V, O, P, Q, L) (nI p) := by
  have hc : (nI p).toNatClampNeg = p := nI_clamp (by omega)
  have hi : vp_in (nI p) 40 := vp_in_nI hp (by decide)
  have hca : (nI a).toNatClampNeg = a := nI_clamp (by omega)
  have hcq : (nI q).toNatClampNeg = q := nI_clamp (by omega)
  unfold wpX_pass
  dsimp only
  rw [hc, nI_1, hA, hca]
  refine ⟨hi, nm_r h (br_f (by decide) (br_f (by decide) (br_t rfl ⟨hi, vp_in_nI ha (by decide), ?_⟩)))⟩
  unfold wpX_print
  dsimp only
  rw [hcq]
  by_cases z : 64 ≤ q
  · rw [if_pos z] at H
    exact br_t (nI_le (a := 64) z (by omega)) (nm_r (nI_1 q) H)
  · rw [if_neg z] at H
    exact br_f (nI_ge (b := 64) (by omega) (by decide)) ⟨vp_in_nI (by omega) (by decide), nm_e (nm_r (nI_1 q) H)⟩
theorem ps_xif {post : Int32 → SX → Prop} {a e : Nat} (hp : p < 40) (ha : a < 6) (hA : A p = nI a) (hP : P p = nI e) (h : K p = 8) (H1 : ¬ V a ≤ 0 → post (nI (p + 1)) (g, f, oc, K, A, B, C, V, O, P, Q, L)) (H0 : V a ≤ 0 → post (nI (e + 1)) (g, f, oc, K, A, B, C, V, O, P, Q, L)) : wpX_pass post (g, f, oc, K, A, B, C, V, O, P, Q, L) (nI p) := by
  have hc : (nI p).toNatClampNeg = p := nI_clamp (by omega)
  have hi : vp_in (nI p) 40 := vp_in_nI hp (by decide)
  have hca : (nI a).toNatClampNeg = a := nI_clamp (by omega)
  unfold wpX_pass
  dsimp only
  rw [hc, nI_1, hA, hca, hP, nI_1]
  exact ⟨hi, nm_r h (br_f (by decide) (br_f (by decide) (br_f (by decide) (br_t rfl ⟨hi, vp_in_nI ha (by decide), br_c (fun z => ⟨hi, H0 z⟩) H1⟩))))⟩
theorem ps_xel {post : Int32 → SX → Prop} {e : Nat} (hp : p < 40) (hP : P p = nI e) (h : K p = 9) (H : post (nI (e + 1)) (g, f, oc, K, A, B, C, V, O, P, Q, L)) : wpX_pass post (g, f, oc, K, A, B, C, V, O, P, Q, L) (nI p) := by
  have hc : (nI p).toNatClampNeg = p := nI_clamp (by omega)
  have hi : vp_in (nI p) 40 := vp_in_nI hp (by decide)
  unfold wpX_pass
  dsimp only
  rw [hc, hP, nI_1 e]
  exact ⟨hi, nm_r h (br_f (by decide) (br_f (by decide) (br_f (by decide) (br_f (by decide) (br_t rfl ⟨hi, H⟩)))))⟩
theorem ps_xlo {post : Int32 → SX → Prop} {a e : Nat} (hp : p < 40) (ha : a < 6) (hA : A p = nI a) (hP : P p = nI e) (h : K p = 10) (H1 : 0 < a → post (nI (p + 1)) (g, f, oc, K, A, B, C, V, O, P, Q, upd L p (nI a))) (H0 : a = 0 → post (nI (e + 1)) (g, f, oc, K, A, B, C, V, O, P, Q, upd L p (nI a))) : wpX_pass post (g, f, oc, K, A, B, C, V, O, P, Q, L) (nI p) := by
  have hc : (nI p).toNatClampNeg = p := nI_clamp (by omega)
  have hi : vp_in (nI p) 40 := vp_in_nI hp (by decide)
  unfold wpX_pass
  dsimp only
  rw [hc]
  refine ⟨hi, nm_r h (br_f (by decide) (br_f (by decide) (br_f (by decide) (br_f (by decide) (br_f (by decide) (br_t rfl ?_))))))⟩
  unfold wpX_beginLoop
  dsimp only
  rw [hc, hA, hP, nI_1 e, nI_1 p]
  refine ⟨hi, hi, nm_e ⟨hi, ?_⟩⟩
  rw [gs_us]
  by_cases z : a = 0
  · exact br_t (by rw [z]; decide) ⟨hi, H0 z⟩
  · exact br_f (nI_nle (by omega) (by omega)) (H1 (by omega))
theorem ps_xei {post : Int32 → SX → Prop} {s : Nat} (hp : p < 40) (hs : s < 40) (hP : P p = nI s) (h : K p = 11) (h' : ¬ K s = 10) (H : post (nI (p + 1)) (g, f, oc, K, A, B, C, V, O, P, Q, L)) : wpX_pass post (g, f, oc, K, A, B, C, V, O, P, Q, L) (nI p) := by
  have hc : (nI p).toNatClampNeg = p := nI_clamp (by omega)
  have hcs : (nI s).toNatClampNeg = s := nI_clamp (by omega)
  have hi : vp_in (nI p) 40 := vp_in_nI hp (by decide)
  unfold wpX_pass
  dsimp only
  rw [hc]
  refine ⟨hi, nm_r h (br_f (by decide) (br_f (by decide) (br_f (by decide) (br_f (by decide) (br_f (by decide) (br_f (by decide) (br_t rfl ?_)))))))⟩
  unfold wpX_passEnd
  dsimp only
  rw [hc, nI_1 p]
  refine ⟨hi, nm_r hP ⟨vp_in_nI hs (by decide), ?_⟩⟩
  rw [hcs]
  exact br_f h' H
theorem ps_xeo {post : Int32 → SX → Prop} {s r : Nat} (hp : p < 40) (hs : s < 40) (hr : r < 100) (hP : P p = nI s) (h : K p = 11) (h' : K s = 10) (hL : L s = nI (r + 1)) (H1 : 0 < r → post (nI (s + 1)) (g, f, oc, K, A, B, C, V, O, P, Q, upd L s (nI r))) (H0 : r = 0 → post (nI (p + 1)) (g, f, oc, K, A, B, C, V, O, P, Q, upd L s (nI r))) : wpX_pass post (g, f, oc, K, A, B, C, V, O, P, Q, L) (nI p) := by
  have hc : (nI p).toNatClampNeg = p := nI_clamp (by omega)
  have hcs : (nI s).toNatClampNeg = s := nI_clamp (by omega)
  have hi : vp_in (nI p) 40 := vp_in_nI hp (by decide)
  have his : vp_in (nI s) 40 := vp_in_nI hs (by decide)
  unfold wpX_pass
  dsimp only
  rw [hc]
  refine ⟨hi, nm_r h (br_f (by decide) (br_f (by decide) (br_f (by decide) (br_f (by decide) (br_f (by decide) (br_f (by decide) (br_t rfl ?_)))))))⟩
  unfold wpX_passEnd
  dsimp only
  rw [hc, nI_1 p]
  refine ⟨hi, nm_r hP ⟨his, ?_⟩⟩
  rw [hcs, hL, nI_pred, nI_1 s]
  refine br_t h' ⟨his, his, nm_e ⟨his, ?_⟩⟩
  rw [gs_us]
  by_cases z : r = 0
  · exact br_t (by rw [z]; decide) (H0 z)
  · exact br_f (nI_nle (by omega) (by omega)) (H1 (by omega))
end
