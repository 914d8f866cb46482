section
variable {tk tv : Nat → Int32} {N mc : Nat} {f D : Nat → Nat} {B : Nat → Bool} {xm yr ym : Int32} {af ms : Nat → Int32} {m s g : Nat}
theorem hm_bin1 {xd xt yo y1 y2 y3 : Int32} {xv : Int64} {dp ib aH aB hP pT pL pk pv gk gv gh cn cd cD cP lk lv lh yH yPk yPv yPh yM yA wt wa ws wb wx vk vv vh : Nat → Int32} {pr gl aP lo pV : Nat → Int64} {n p q vb w nh an fl pn t : Nat} {A H : Nat → Nat} {M : Nat → Bool} (G : hp_G tk tv N f D B mc) (haf : ∀ t, t < N → af t = nI (f t)) (hms : ∀ m, m < mc → ms m = nI (hc_it f m 0)) (hs : s + 1 < 1000000) (hg : g + 1 < 4000000) (IHa : hr_PA tk tv N f D B xm yr ym af ms m (s + 1) (g + 1)) (IHb : hr_PB tk tv N f D B xm yr ym af ms m (s + 1) (g + 1)) (C : hr_C tk N (q + 1) nh an fl pn A H M gl pr aH aP lo hP pk pv gk gv gh lk lv lh yH yPk yPv yPh yM yA) (S : hs_S (hv_V tk N nh H) tk N f D B A M aB pT pL pV wt wa ws wb wx vk vv vh n p q vb w) (t1 : t < N) (t2 : wt n = nI t) (t3 : wa n = nI (A q)) (t5 : wb n = nI vb) (t6 : n < 8 * q + D t) (t7 : M q = true → B t = false) (b8 : pT p = nI t) (V : hv_V tk N nh H xv (vk vb) (vv vb) (vh vb)) (b1 : ws n = 1) (b9 : pL p = 0) {k : Nat} (k1 : k ≤ 16) (k2 : tk t = nI k) (kb : hs_bin (nI k)) (hm : w + (3 + 4 * (f t - f (t + 1))) + 512 * fl ≤ m + 1) : hr_D N xm yr ym tk tv af ms s g (nI N, xm, 0, 0, nI pn, nI fl, xd, nI (q + 1), nI nh, nI (p + 1), xt, xv, 1, tk, tv, af, dp, ib, ms, pr, gl, aH, aP, aB, lo, hP, pT, pL, pV) (nI N, yr, ym, yo, 0, 0, nI pn, nI fl, xd, nI an, nI (q + 1), nI (n + 1), nI (vb + 1), y1, y2, y3, tk, tv, pk, pv, gk, gv, gh, cn, cd, cD, cP, lk, lv, lh, yH, yPk, yPv, yPh, yM, yA, wt, wa, ws, wb, wx, vk, vv, vh) := by
  have C' := C
  obtain ⟨c1, c2, c3, c4, cA, cL, cG, cPr⟩ := C'
  have g1 := G.1
  have gL := G.2.1
  have gD := G.2.2.1 t t1
  have hT := G.2.2.2.2.2.2.2.1
  obtain ⟨a1, a2, h0, a3, a4, a5, a6⟩ := cA.1 q (Nat.lt_succ_self q)
  have hH0 := (cA.2.2.1 h0 a3).1
  obtain ⟨bd1, bd2, bd3, bd4, bb, bb1, bb2⟩ := hs_S_bd (fun t ht => (G.2.2.1 t ht).2) n p q vb w S
  have hpe : ¬ nI (p + 1) ≤ aB q := by rw [bb1]; exact nI_ge (by omega) (by omega)
  have VK := hv_VK g1 (by omega) V
  have gK : ∀ i, i < 8 → hv_K (gl i) (gk i) (gv i) := fun i hi => hv_VK g1 (by omega) (cG i hi)
  have kb' : hs_bin (tk t) := by rw [k2]; exact kb
  have ar2 := (hs_bin_ar kb').1
  have p1 := hp_1 G t1 (by omega)
  have p2 := hp_2 G t1 (by omega)
  have pf := hp_f2 G t1 ar2
  obtain ⟨S2, T2⟩ := hs_t_2 G S t1 t2 t3 t5 t6 t7 b8 (by omega) kb' V
  exact hr_gb (by omega) (by omega) (by omega) (by omega) hpe (fun K h => wx_res1 (by omega) (by omega) b8 k1 k2 kb b9 (haf _ p1.1) h) (fun K h => wy_bin1 (by omega) t1 g1 (by omega) t2 t3 b1 k1 k2 ar2 hT gL p1.1 h) (IHa C S2 T2 (by omega))
theorem hm_seq1 {xd xt yo y1 y2 y3 : Int32} {xv : Int64} {dp ib aH aB hP pT pL pk pv gk gv gh cn cd cD cP lk lv lh yH yPk yPv yPh yM yA wt wa ws wb wx vk vv vh : Nat → Int32} {pr gl aP lo pV : Nat → Int64} {n p q vb w nh an fl pn t : Nat} {A H : Nat → Nat} {M : Nat → Bool} (G : hp_G tk tv N f D B mc) (haf : ∀ t, t < N → af t = nI (f t)) (hms : ∀ m, m < mc → ms m = nI (hc_it f m 0)) (hs : s + 1 < 1000000) (hg : g + 1 < 4000000) (IHa : hr_PA tk tv N f D B xm yr ym af ms m (s + 1) (g + 1)) (IHb : hr_PB tk tv N f D B xm yr ym af ms m (s + 1) (g + 1)) (C : hr_C tk N (q + 1) nh an fl pn A H M gl pr aH aP lo hP pk pv gk gv gh lk lv lh yH yPk yPv yPh yM yA) (S : hs_S (hv_V tk N nh H) tk N f D B A M aB pT pL pV wt wa ws wb wx vk vv vh n p q vb w) (t1 : t < N) (t2 : wt n = nI t) (t3 : wa n = nI (A q)) (t5 : wb n = nI vb) (t6 : n < 8 * q + D t) (t7 : M q = true → B t = false) (b8 : pT p = nI t) (V : hv_V tk N nh H xv (vk vb) (vv vb) (vh vb)) (b1 : ws n = 1) (k2 : tk t = nI 11) (hm : w + (3 + 4 * (f t - f (t + 1))) + 512 * fl ≤ m + 1) : hr_D N xm yr ym tk tv af ms s g (nI N, xm, 0, 0, nI pn, nI fl, xd, nI (q + 1), nI nh, nI (p + 1), xt, xv, 1, tk, tv, af, dp, ib, ms, pr, gl, aH, aP, aB, lo, hP, pT, pL, pV) (nI N, yr, ym, yo, 0, 0, nI pn, nI fl, xd, nI an, nI (q + 1), nI (n + 1), nI (vb + 1), y1, y2, y3, tk, tv, pk, pv, gk, gv, gh, cn, cd, cD, cP, lk, lv, lh, yH, yPk, yPv, yPh, yM, yA, wt, wa, ws, wb, wx, vk, vv, vh) := by
  have C' := C
  obtain ⟨c1, c2, c3, c4, cA, cL, cG, cPr⟩ := C'
  have g1 := G.1
  have gL := G.2.1
  have gD := G.2.2.1 t t1
  have hT := G.2.2.2.2.2.2.2.1
  obtain ⟨a1, a2, h0, a3, a4, a5, a6⟩ := cA.1 q (Nat.lt_succ_self q)
  have hH0 := (cA.2.2.1 h0 a3).1
  obtain ⟨bd1, bd2, bd3, bd4, bb, bb1, bb2⟩ := hs_S_bd (fun t ht => (G.2.2.1 t ht).2) n p q vb w S
  have hpe : ¬ nI (p + 1) ≤ aB q := by rw [bb1]; exact nI_ge (by omega) (by omega)
  have VK := hv_VK g1 (by omega) V
  have gK : ∀ i, i < 8 → hv_K (gl i) (gk i) (gv i) := fun i hi => hv_VK g1 (by omega) (cG i hi)
  have ar2 : hc_ar (tk t) = 2 := by rw [k2]; decide
  have p1 := hp_1 G t1 (by omega)
  have p2 := hp_2 G t1 (by omega)
  have pf := hp_f2 G t1 ar2
  obtain ⟨S2, T2⟩ := hs_t_s G S t1 t2 t3 t5 t6 t7 k2
  exact hr_gb (by omega) (by omega) (by omega) (by omega) hpe (fun K h => wx_res67 (by omega) (by omega) b8 (k := 11) (by omega) k2 (Or.inl (by unfold hs_bin; decide)) (wx_seq (by omega) (haf _ p1.1) h)) (fun K h => wy_bin1 (by omega) t1 g1 (by omega) t2 t3 b1 (k := 11) (by omega) k2 ar2 hT gL p1.1 h) (IHa C S2 T2 (by omega))
theorem hm_if1 {xd xt yo y1 y2 y3 : Int32} {xv : Int64} {dp ib aH aB hP pT pL pk pv gk gv gh cn cd cD cP lk lv lh yH yPk yPv yPh yM yA wt wa ws wb wx vk vv vh : Nat → Int32} {pr gl aP lo pV : Nat → Int64} {n p q vb w nh an fl pn t : Nat} {A H : Nat → Nat} {M : Nat → Bool} (G : hp_G tk tv N f D B mc) (haf : ∀ t, t < N → af t = nI (f t)) (hms : ∀ m, m < mc → ms m = nI (hc_it f m 0)) (hs : s + 1 < 1000000) (hg : g + 1 < 4000000) (IHa : hr_PA tk tv N f D B xm yr ym af ms m (s + 1) (g + 1)) (IHb : hr_PB tk tv N f D B xm yr ym af ms m (s + 1) (g + 1)) (C : hr_C tk N (q + 1) nh an fl pn A H M gl pr aH aP lo hP pk pv gk gv gh lk lv lh yH yPk yPv yPh yM yA) (S : hs_S (hv_V tk N nh H) tk N f D B A M aB pT pL pV wt wa ws wb wx vk vv vh n p q vb w) (t1 : t < N) (t2 : wt n = nI t) (t3 : wa n = nI (A q)) (t5 : wb n = nI vb) (t6 : n < 8 * q + D t) (t7 : M q = true → B t = false) (b8 : pT p = nI t) (V : hv_V tk N nh H xv (vk vb) (vv vb) (vh vb)) (b1 : ws n = 1) (k2 : tk t = nI 10) (hm : w + (3 + 4 * (f t - f (t + 1))) + 512 * fl ≤ m + 1) : hr_D N xm yr ym tk tv af ms s g (nI N, xm, 0, 0, nI pn, nI fl, xd, nI (q + 1), nI nh, nI (p + 1), xt, xv, 1, tk, tv, af, dp, ib, ms, pr, gl, aH, aP, aB, lo, hP, pT, pL, pV) (nI N, yr, ym, yo, 0, 0, nI pn, nI fl, xd, nI an, nI (q + 1), nI (n + 1), nI (vb + 1), y1, y2, y3, tk, tv, pk, pv, gk, gv, gh, cn, cd, cD, cP, lk, lv, lh, yH, yPk, yPv, yPh, yM, yA, wt, wa, ws, wb, wx, vk, vv, vh) := by
  have C' := C
  obtain ⟨c1, c2, c3, c4, cA, cL, cG, cPr⟩ := C'
  have g1 := G.1
  have gL := G.2.1
  have gD := G.2.2.1 t t1
  have hT := G.2.2.2.2.2.2.2.1
  obtain ⟨a1, a2, h0, a3, a4, a5, a6⟩ := cA.1 q (Nat.lt_succ_self q)
  have hH0 := (cA.2.2.1 h0 a3).1
  obtain ⟨bd1, bd2, bd3, bd4, bb, bb1, bb2⟩ := hs_S_bd (fun t ht => (G.2.2.1 t ht).2) n p q vb w S
  have hpe : ¬ nI (p + 1) ≤ aB q := by rw [bb1]; exact nI_ge (by omega) (by omega)
  have VK := hv_VK g1 (by omega) V
  have gK : ∀ i, i < 8 → hv_K (gl i) (gk i) (gv i) := fun i hi => hv_VK g1 (by omega) (cG i hi)
  have ar3 : hc_ar (tk t) = 3 := by rw [k2]; decide
  have p1 := hp_1 G t1 (by omega)
  have p2 := hp_2 G t1 (by omega)
  have p3 := hp_3 G t1 (by omega)
  have pf := hp_f3 G t1 ar3
  have nb : ¬ hs_bin (nI 10) := by unfold hs_bin; decide
  have e1 := haf _ p1.1
  have e2 := haf _ p2.1
  rcases VK.2 with ⟨z, -⟩ | ⟨z, -⟩
  · have z1 : vk vb ≠ 1 := by rw [z]; decide
    by_cases y : vv vb = 0
    · obtain ⟨S2, T2⟩ := hs_t_i G S t1 t2 t3 t5 t6 t7 k2 (c := f (f (t + 1))) ⟨2, by unfold hp_a; omega, rfl⟩
      exact hr_gb (by omega) (by omega) (by omega) (by omega) hpe (fun K h => wx_res67 (by omega) (by omega) b8 (k := 10) (by omega) k2 (Or.inl nb) (wx_if (by omega) (by omega) VK e1 e2 (fun x => absurd x z1) (fun _ _ => h) (fun _ x => absurd y x))) (fun K h => wy_if1 (by omega) t1 g1 (by omega) t2 t3 b1 k2 hT gL (by omega) p1.1 p2.1 (fun x => absurd x z1) (fun _ _ => h) (fun _ x => absurd y x)) (IHa C S2 T2 (by omega))
    · obtain ⟨S2, T2⟩ := hs_t_i G S t1 t2 t3 t5 t6 t7 k2 (c := f (t + 1)) ⟨1, by unfold hp_a; omega, rfl⟩
      exact hr_gb (by omega) (by omega) (by omega) (by omega) hpe (fun K h => wx_res67 (by omega) (by omega) b8 (k := 10) (by omega) k2 (Or.inl nb) (wx_if (by omega) (by omega) VK e1 e2 (fun x => absurd x z1) (fun _ x => absurd x y) (fun _ _ => h))) (fun K h => wy_if1 (by omega) t1 g1 (by omega) t2 t3 b1 k2 hT gL (by omega) p1.1 p2.1 (fun x => absurd x z1) (fun _ x => absurd x y) (fun _ _ => h)) (IHa C S2 T2 (by omega))
  · have z0 : vk vb ≠ 0 := by rw [z]; decide
    exact hr_st hs hg (by decide) (wk_xb (by omega) (by omega) hpe (fun K h => wx_res67 (by omega) (by omega) b8 (k := 10) (by omega) k2 (Or.inl nb) (wx_if (by omega) (by omega) VK e1 e2 (fun _ => h) (fun x _ => absurd x z0) (fun x _ => absurd x z0)))) (wk_ys (by omega) (by omega) (fun K h => wy_if1 (by omega) t1 g1 (by omega) t2 t3 b1 k2 hT gL (by omega) p1.1 p2.1 (fun _ => h) (fun x _ => absurd z x) (fun x _ => absurd z x))) (hr_F_mk hv_K0 c3 cPr gK)
theorem hm_set {xd xt yo y1 y2 y3 : Int32} {xv : Int64} {dp ib aH aB hP pT pL pk pv gk gv gh cn cd cD cP lk lv lh yH yPk yPv yPh yM yA wt wa ws wb wx vk vv vh : Nat → Int32} {pr gl aP lo pV : Nat → Int64} {n p q vb w nh an fl pn t : Nat} {A H : Nat → Nat} {M : Nat → Bool} (G : hp_G tk tv N f D B mc) (haf : ∀ t, t < N → af t = nI (f t)) (hms : ∀ m, m < mc → ms m = nI (hc_it f m 0)) (hs : s + 1 < 1000000) (hg : g + 1 < 4000000) (IHa : hr_PA tk tv N f D B xm yr ym af ms m (s + 1) (g + 1)) (IHb : hr_PB tk tv N f D B xm yr ym af ms m (s + 1) (g + 1)) (C : hr_C tk N (q + 1) nh an fl pn A H M gl pr aH aP lo hP pk pv gk gv gh lk lv lh yH yPk yPv yPh yM yA) (S : hs_S (hv_V tk N nh H) tk N f D B A M aB pT pL pV wt wa ws wb wx vk vv vh n p q vb w) (t1 : t < N) (t2 : wt n = nI t) (t3 : wa n = nI (A q)) (t5 : wb n = nI vb) (t6 : n < 8 * q + D t) (t7 : M q = true → B t = false) (b8 : pT p = nI t) (V : hv_V tk N nh H xv (vk vb) (vv vb) (vh vb)) (b1 : ws n = 1) (k2 : tk t = nI 2) (hm : w + (3 + 4 * (f t - f (t + 1))) + 512 * fl ≤ m + 1) : hr_D N xm yr ym tk tv af ms s g (nI N, xm, 0, 0, nI pn, nI fl, xd, nI (q + 1), nI nh, nI (p + 1), xt, xv, 1, tk, tv, af, dp, ib, ms, pr, gl, aH, aP, aB, lo, hP, pT, pL, pV) (nI N, yr, ym, yo, 0, 0, nI pn, nI fl, xd, nI an, nI (q + 1), nI (n + 1), nI (vb + 1), y1, y2, y3, tk, tv, pk, pv, gk, gv, gh, cn, cd, cD, cP, lk, lv, lh, yH, yPk, yPv, yPh, yM, yA, wt, wa, ws, wb, wx, vk, vv, vh) := by
  have C' := C
  obtain ⟨c1, c2, c3, c4, cA, cL, cG, cPr⟩ := C'
  have g1 := G.1
  have gL := G.2.1
  have gD := G.2.2.1 t t1
  have hT := G.2.2.2.2.2.2.2.1
  obtain ⟨a1, a2, h0, a3, a4, a5, a6⟩ := cA.1 q (Nat.lt_succ_self q)
  have hH0 := (cA.2.2.1 h0 a3).1
  obtain ⟨bd1, bd2, bd3, bd4, bb, bb1, bb2⟩ := hs_S_bd (fun t ht => (G.2.2.1 t ht).2) n p q vb w S
  have hpe : ¬ nI (p + 1) ≤ aB q := by rw [bb1]; exact nI_ge (by omega) (by omega)
  have VK := hv_VK g1 (by omega) V
  have gK : ∀ i, i < 8 → hv_K (gl i) (gk i) (gv i) := fun i hi => hv_VK g1 (by omega) (cG i hi)
  obtain ⟨j, j1, j2⟩ := hp_v4 hT t1 (Or.inr k2)
  exact hr_gb (by omega) (by omega) (by omega) (by omega) hpe (fun K h => wx_res67 (by omega) (by omega) b8 (k := 2) (by omega) k2 (Or.inl (by unfold hs_bin; decide)) (wx_set (by omega) (by omega) a4 j2 (by omega) h)) (fun K h => wy_set (by omega) t1 g1 (by omega) t2 t3 b1 k2 (by omega) a5 j2 (by omega) h) (IHb ⟨c1, c2, c3, c4, cA, hs_L_set cL cA.2.2.2.1 a3 j1 V, cG, cPr⟩ (hs_t_v S _ _ _) (by rw [pk_us, pk_us, pk_us]; exact V) (by omega))
theorem hm_gset {xd xt yo y1 y2 y3 : Int32} {xv : Int64} {dp ib aH aB hP pT pL pk pv gk gv gh cn cd cD cP lk lv lh yH yPk yPv yPh yM yA wt wa ws wb wx vk vv vh : Nat → Int32} {pr gl aP lo pV : Nat → Int64} {n p q vb w nh an fl pn t : Nat} {A H : Nat → Nat} {M : Nat → Bool} (G : hp_G tk tv N f D B mc) (haf : ∀ t, t < N → af t = nI (f t)) (hms : ∀ m, m < mc → ms m = nI (hc_it f m 0)) (hs : s + 1 < 1000000) (hg : g + 1 < 4000000) (IHa : hr_PA tk tv N f D B xm yr ym af ms m (s + 1) (g + 1)) (IHb : hr_PB tk tv N f D B xm yr ym af ms m (s + 1) (g + 1)) (C : hr_C tk N (q + 1) nh an fl pn A H M gl pr aH aP lo hP pk pv gk gv gh lk lv lh yH yPk yPv yPh yM yA) (S : hs_S (hv_V tk N nh H) tk N f D B A M aB pT pL pV wt wa ws wb wx vk vv vh n p q vb w) (t1 : t < N) (t2 : wt n = nI t) (t3 : wa n = nI (A q)) (t5 : wb n = nI vb) (t6 : n < 8 * q + D t) (t7 : M q = true → B t = false) (b8 : pT p = nI t) (V : hv_V tk N nh H xv (vk vb) (vv vb) (vh vb)) (b1 : ws n = 1) (k2 : tk t = nI 4) (hm : w + (3 + 4 * (f t - f (t + 1))) + 512 * fl ≤ m + 1) : hr_D N xm yr ym tk tv af ms s g (nI N, xm, 0, 0, nI pn, nI fl, xd, nI (q + 1), nI nh, nI (p + 1), xt, xv, 1, tk, tv, af, dp, ib, ms, pr, gl, aH, aP, aB, lo, hP, pT, pL, pV) (nI N, yr, ym, yo, 0, 0, nI pn, nI fl, xd, nI an, nI (q + 1), nI (n + 1), nI (vb + 1), y1, y2, y3, tk, tv, pk, pv, gk, gv, gh, cn, cd, cD, cP, lk, lv, lh, yH, yPk, yPv, yPh, yM, yA, wt, wa, ws, wb, wx, vk, vv, vh) := by
  have C' := C
  obtain ⟨c1, c2, c3, c4, cA, cL, cG, cPr⟩ := C'
  have g1 := G.1
  have gL := G.2.1
  have gD := G.2.2.1 t t1
  have hT := G.2.2.2.2.2.2.2.1
  obtain ⟨a1, a2, h0, a3, a4, a5, a6⟩ := cA.1 q (Nat.lt_succ_self q)
  have hH0 := (cA.2.2.1 h0 a3).1
  obtain ⟨bd1, bd2, bd3, bd4, bb, bb1, bb2⟩ := hs_S_bd (fun t ht => (G.2.2.1 t ht).2) n p q vb w S
  have hpe : ¬ nI (p + 1) ≤ aB q := by rw [bb1]; exact nI_ge (by omega) (by omega)
  have VK := hv_VK g1 (by omega) V
  have gK : ∀ i, i < 8 → hv_K (gl i) (gk i) (gv i) := fun i hi => hv_VK g1 (by omega) (cG i hi)
  obtain ⟨j, j1, j2⟩ := hp_v8 hT t1 (Or.inr k2)
  have cG' : ∀ i, i < 8 → hv_V tk N nh H (vp_updL gl j xv i) (upd gk j (vk vb) i) (upd gv j (vv vb) i) (upd gh j (vh vb) i) := fun i hi => by
    by_cases e : i = j
    · subst e; rw [pk_uLs, pk_us, pk_us, pk_us]; exact V
    · rw [pk_uLn e, pk_un e, pk_un e, pk_un e]; exact cG i hi
  exact hr_gb (by omega) (by omega) (by omega) (by omega) hpe (fun K h => wx_res67 (by omega) (by omega) b8 (k := 4) (by omega) k2 (Or.inl (by unfold hs_bin; decide)) (wx_gset (by omega) j2 j1 h)) (fun K h => wy_gset (by omega) t1 g1 (by omega) t2 t3 b1 k2 (by omega) j2 j1 h) (IHb ⟨c1, c2, c3, c4, cA, cL, cG', cPr⟩ (hs_t_v S _ _ _) (by rw [pk_us, pk_us, pk_us]; exact V) (by omega))
theorem hm_print {xd xt yo y1 y2 y3 : Int32} {xv : Int64} {dp ib aH aB hP pT pL pk pv gk gv gh cn cd cD cP lk lv lh yH yPk yPv yPh yM yA wt wa ws wb wx vk vv vh : Nat → Int32} {pr gl aP lo pV : Nat → Int64} {n p q vb w nh an fl pn t : Nat} {A H : Nat → Nat} {M : Nat → Bool} (G : hp_G tk tv N f D B mc) (haf : ∀ t, t < N → af t = nI (f t)) (hms : ∀ m, m < mc → ms m = nI (hc_it f m 0)) (hs : s + 1 < 1000000) (hg : g + 1 < 4000000) (IHa : hr_PA tk tv N f D B xm yr ym af ms m (s + 1) (g + 1)) (IHb : hr_PB tk tv N f D B xm yr ym af ms m (s + 1) (g + 1)) (C : hr_C tk N (q + 1) nh an fl pn A H M gl pr aH aP lo hP pk pv gk gv gh lk lv lh yH yPk yPv yPh yM yA) (S : hs_S (hv_V tk N nh H) tk N f D B A M aB pT pL pV wt wa ws wb wx vk vv vh n p q vb w) (t1 : t < N) (t2 : wt n = nI t) (t3 : wa n = nI (A q)) (t5 : wb n = nI vb) (t6 : n < 8 * q + D t) (t7 : M q = true → B t = false) (b8 : pT p = nI t) (V : hv_V tk N nh H xv (vk vb) (vv vb) (vh vb)) (b1 : ws n = 1) (k2 : tk t = nI 12) (hm : w + (3 + 4 * (f t - f (t + 1))) + 512 * fl ≤ m + 1) : hr_D N xm yr ym tk tv af ms s g (nI N, xm, 0, 0, nI pn, nI fl, xd, nI (q + 1), nI nh, nI (p + 1), xt, xv, 1, tk, tv, af, dp, ib, ms, pr, gl, aH, aP, aB, lo, hP, pT, pL, pV) (nI N, yr, ym, yo, 0, 0, nI pn, nI fl, xd, nI an, nI (q + 1), nI (n + 1), nI (vb + 1), y1, y2, y3, tk, tv, pk, pv, gk, gv, gh, cn, cd, cD, cP, lk, lv, lh, yH, yPk, yPv, yPh, yM, yA, wt, wa, ws, wb, wx, vk, vv, vh) := by
  have C' := C
  obtain ⟨c1, c2, c3, c4, cA, cL, cG, cPr⟩ := C'
  have g1 := G.1
  have gL := G.2.1
  have gD := G.2.2.1 t t1
  have hT := G.2.2.2.2.2.2.2.1
  obtain ⟨a1, a2, h0, a3, a4, a5, a6⟩ := cA.1 q (Nat.lt_succ_self q)
  have hH0 := (cA.2.2.1 h0 a3).1
  obtain ⟨bd1, bd2, bd3, bd4, bb, bb1, bb2⟩ := hs_S_bd (fun t ht => (G.2.2.1 t ht).2) n p q vb w S
  have hpe : ¬ nI (p + 1) ≤ aB q := by rw [bb1]; exact nI_ge (by omega) (by omega)
  have VK := hv_VK g1 (by omega) V
  have gK : ∀ i, i < 8 → hv_K (gl i) (gk i) (gv i) := fun i hi => hv_VK g1 (by omega) (cG i hi)
  by_cases z : pn = 32
  · exact hr_gb (by omega) (by omega) (by omega) (by omega) hpe (fun K h => wx_res67 (by omega) (by omega) b8 (k := 12) (by omega) k2 (Or.inl (by unfold hs_bin; decide)) (wx_print (by omega) c3 (fun _ => h) (fun x => absurd z (by omega)))) (fun K h => wy_print0 (by omega) t1 g1 (by omega) t2 t3 b1 k2 (by omega) z h) (IHb C (hs_t_v S _ _ _) (by rw [pk_us, pk_us, pk_us]; exact V) (by omega))
  · have cPr' : ∀ i, i < pn + 1 → hv_K (vp_updL pr pn xv i) (upd pk pn (vk vb) i) (upd pv pn (vv vb) i) := fun i hi => by
      by_cases e : i = pn
      · subst e; rw [pk_uLs, pk_us, pk_us]; exact VK
      · rw [pk_uLn e, pk_un e, pk_un e]; exact cPr i (by omega)
    exact hr_gb (by omega) (by omega) (by omega) (by omega) hpe (fun K h => wx_res67 (by omega) (by omega) b8 (k := 12) (by omega) k2 (Or.inl (by unfold hs_bin; decide)) (wx_print (by omega) c3 (fun x => absurd x z) (fun _ => h))) (fun K h => wy_print1 (by omega) t1 g1 (by omega) t2 t3 b1 k2 (by omega) (by omega) h) (IHb ⟨c1, c2, by omega, c4, cA, cL, cG, cPr'⟩ (hs_t_v S _ _ _) (by rw [pk_us, pk_us, pk_us]; exact V) (by omega))
end
