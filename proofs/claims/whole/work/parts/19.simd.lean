section
variable {tk tv : Nat → Int32} {N mc : Nat} {f D : Nat → Nat} {B : Nat → Bool} {xm yr ym : Int32} {af ms : Nat → Int32} {m s g : Nat}
theorem hm_call {xd xt yo y1 y2 y3 : Int32} {xv : Int64} {dp ib aH aB hP pT pL pk pv gk gv gh cn cd cD cP lk lv lh yH yPk yPv yPh yM yA wt wa ws wb wx vk vv vh : Nat → Int32} {pr gl aP lo pV : Nat → Int64} {n p q vb w nh an fl pn t : Nat} {A H : Nat → Nat} {M : Nat → Bool} (G : hp_G tk tv N f D B mc) (haf : ∀ t, t < N → af t = nI (f t)) (hms : ∀ m, m < mc → ms m = nI (hc_it f m 0)) (hs : s + 1 < 1000000) (hg : g + 1 < 4000000) (IHa : hr_PA tk tv N f D B xm yr ym af ms m (s + 1) (g + 1)) (IHb : hr_PB tk tv N f D B xm yr ym af ms m (s + 1) (g + 1)) (C : hr_C tk N (q + 1) nh an fl pn A H M gl pr aH aP lo hP pk pv gk gv gh lk lv lh yH yPk yPv yPh yM yA) (S : hs_S (hv_V tk N nh H) tk N f D B A M aB pT pL pV wt wa ws wb wx vk vv vh n p q vb w) (t1 : t < N) (t2 : wt n = nI t) (t3 : wa n = nI (A q)) (t5 : wb n = nI vb) (t6 : n < 8 * q + D t) (t7 : M q = true → B t = false) (b8 : pT p = nI t) (V : hv_V tk N nh H xv (vk vb) (vv vb) (vh vb)) (b1 : ws n = 1) (k2 : tk t = nI 15) (hm : w + (3 + 4 * (f t - f (t + 1))) + 512 * fl ≤ m + 1) : hr_D N xm yr ym tk tv af ms s g (nI N, xm, 0, 0, nI pn, nI fl, xd, nI (q + 1), nI nh, nI (p + 1), xt, xv, 1, tk, tv, af, dp, ib, ms, pr, gl, aH, aP, aB, lo, hP, pT, pL, pV) (nI N, yr, ym, yo, 0, 0, nI pn, nI fl, xd, nI an, nI (q + 1), nI (n + 1), nI (vb + 1), y1, y2, y3, tk, tv, pk, pv, gk, gv, gh, cn, cd, cD, cP, lk, lv, lh, yH, yPk, yPv, yPh, yM, yA, wt, wa, ws, wb, wx, vk, vv, vh) := by
  have C' := C
  obtain ⟨c1, c2, c3, c4, cA, cL, cG, cPr⟩ := C'
  have g1 := G.1
  have gL := G.2.1
  have gD := G.2.2.1 t t1
  have hT := G.2.2.2.2.2.2.2.1
  obtain ⟨a1, a2, h0, a3, a4, a5, a6⟩ := cA.1 q (Nat.lt_succ_self q)
  have hH0 := (cA.2.2.1 h0 a3).1
  have hHa : ∀ h, h < nh → H h < an := fun h hh => (cA.2.2.1 h hh).1
  obtain ⟨bd1, bd2, bd3, bd4, bb, bb1, bb2⟩ := hs_S_bd (fun t ht => (G.2.2.1 t ht).2) n p q vb w S
  have hpe : ¬ nI (p + 1) ≤ aB q := by rw [bb1]; exact nI_ge (by omega) (by omega)
  have VK := hv_VK g1 (by omega) V
  have gK : ∀ i, i < 8 → hv_K (gl i) (gk i) (gv i) := fun i hi => hv_VK g1 (by omega) (cG i hi)
  have hH : ∀ e, e ≤ q → ∃ h, h < 256 ∧ aH e = nI h := fun e he => by
    obtain ⟨_, _, h, h1, h2, _⟩ := cA.1 e (by omega)
    exact ⟨h, by omega, h2⟩
  obtain ⟨mm, m1, m2⟩ := G.2.2.2.2.2.2.1 t t1 k2
  have mc8 := G.2.2.2.2.2.2.2.2.2
  obtain ⟨r1, r2⟩ := G.2.2.2.2.1 mm m1
  have r3 := hp_lt G r1
  cases fl with
  | zero => exact hr_st hs hg (by decide) (wk_xb (by omega) (by omega) hpe (fun K h => wx_res67 (by omega) (by omega) b8 (k := 15) (by omega) k2 (Or.inl (by unfold hs_bin; decide)) (wx_call (by omega) m2 (by omega) (hms mm m1) (by omega) (by omega) (fun _ _ => by omega) (fun _ => h) (fun f1 e => nomatch e) (fun f1 e => nomatch e)))) (wk_ys (by omega) (by omega) (fun K h => wy_call (by omega) t1 g1 (by omega) t2 t3 b1 k2 hT gL (by omega) m2 (by omega) (fun k hk => (G.2.2.2.2.1 k (by omega)).1) (by omega) (by omega) (fun _ => by omega) (fun _ => h) (fun f1 e => nomatch e) (fun f1 e => nomatch e))) (hr_F_mk hv_K0 c3 cPr gK)
  | succ f1 =>
    by_cases z : q + 1 = 16
    · have X1 : ∀ K : SX → Prop, K (nI N, xm, 5, 0, nI pn, nI f1, xd, nI (q + 1), nI nh, nI p, xt, xv, 1, tk, tv, af, dp, ib, ms, pr, gl, aH, aP, aB, lo, hP, pT, pL, pV) → wpX_resumeToken K (nI N, xm, 0, 0, nI pn, nI (f1 + 1), xd, nI (q + 1), nI nh, nI (p + 1), xt, xv, 1, tk, tv, af, dp, ib, ms, pr, gl, aH, aP, aB, lo, hP, pT, pL, pV) := fun K h => wx_res67 (by omega) (by omega) b8 (k := 15) (by omega) k2 (Or.inl (by unfold hs_bin; decide)) (wx_call (by omega) m2 (by omega) (hms mm m1) (by omega) (by omega) (fun _ _ => by omega) (fun e => nomatch e) (fun f2 e _ => by cases e; exact h) (fun f2 e z2 => absurd z (by omega)))
      have Y1 : ∀ K : Int32 → SY → Prop, K 5 (nI N, yr, ym, yo, 0, 0, nI pn, nI f1, xd, nI an, nI (q + 1), nI (n + 1), nI vb, vk vb, vv vb, vh vb, tk, tv, pk, pv, gk, gv, gh, cn, cd, cD, cP, lk, lv, lh, yH, yPk, yPv, yPh, yM, yA, wt, wa, ws, wb, wx, vk, vv, vh) → wpY_step K (nI N, yr, ym, yo, 0, 0, nI pn, nI (f1 + 1), xd, nI an, nI (q + 1), nI (n + 1), nI (vb + 1), y1, y2, y3, tk, tv, pk, pv, gk, gv, gh, cn, cd, cD, cP, lk, lv, lh, yH, yPk, yPv, yPh, yM, yA, wt, wa, ws, wb, wx, vk, vv, vh) := fun K h => wy_call (by omega) t1 g1 (by omega) t2 t3 b1 k2 hT gL (by omega) m2 (by omega) (fun k hk => (G.2.2.2.2.1 k (by omega)).1) (by omega) (by omega) (fun _ => by omega) (fun e => nomatch e) (fun f2 e _ => by cases e; exact h) (fun f2 e z2 => absurd z (by omega))
      exact hr_st hs hg (by decide) (wk_xb (by omega) (by omega) hpe X1) (wk_ys (by omega) (by omega) Y1) (hr_F_mk hv_K0 c3 cPr gK)
    · have mono := fun x k v h => hv_V_mono (tk := tk) (N := N) (nh := nh) (nh' := nh + 1) (H := H) (H' := gu H nh an) (Nat.le_succ nh) (fun j hj => gu_n (by omega)) x k v h
      obtain ⟨S2, T2⟩ := hs_t_c (an := an) mono G.2.2.1 S t1 t2 t3 t5 t6 t7 (Or.inl ⟨rfl, k2, rfl⟩) r1 (fun _ => r2)
      exact hr_gb (by omega) (by omega) (by omega) (by omega) hpe (fun K h => wx_res67 (by omega) (by omega) b8 (k := 15) (by omega) k2 (Or.inl (by unfold hs_bin; decide)) (wx_call (by omega) m2 (by omega) (hms mm m1) (by omega) (by omega) (fun _ _ => by omega) (fun e => nomatch e) (fun f2 e z2 => absurd z2 z) (fun f2 e _ => by cases e; exact h))) (fun K h => wy_call (by omega) t1 g1 (by omega) t2 t3 b1 k2 hT gL (by omega) m2 (by omega) (fun k hk => (G.2.2.2.2.1 k (by omega)).1) (by omega) (by omega) (fun _ => by omega) (fun e => nomatch e) (fun f2 e z2 => absurd z2 z) (fun f2 e _ => by cases e; exact h)) (IHa ⟨by omega, by omega, c3, by omega, hs_A_V mono (hs_A_meth cA), hs_L_met cL hHa V, fun i hi => mono _ _ _ _ (cG i hi), cPr⟩ S2 T2 (by omega))
theorem hm_ret {xd xt yo y1 y2 y3 : Int32} {xv : Int64} {dp ib aH aB hP pT pL pk pv gk gv gh cn cd cD cP lk lv lh yH yPk yPv yPh yM yA wt wa ws wb wx vk vv vh : Nat → Int32} {pr gl aP lo pV : Nat → Int64} {n p q vb w nh an fl pn t : Nat} {A H : Nat → Nat} {M : Nat → Bool} (G : hp_G tk tv N f D B mc) (haf : ∀ t, t < N → af t = nI (f t)) (hms : ∀ m, m < mc → ms m = nI (hc_it f m 0)) (hs : s + 1 < 1000000) (hg : g + 1 < 4000000) (IHa : hr_PA tk tv N f D B xm yr ym af ms m (s + 1) (g + 1)) (IHb : hr_PB tk tv N f D B xm yr ym af ms m (s + 1) (g + 1)) (C : hr_C tk N (q + 1) nh an fl pn A H M gl pr aH aP lo hP pk pv gk gv gh lk lv lh yH yPk yPv yPh yM yA) (S : hs_S (hv_V tk N nh H) tk N f D B A M aB pT pL pV wt wa ws wb wx vk vv vh n p q vb w) (t1 : t < N) (t2 : wt n = nI t) (t3 : wa n = nI (A q)) (t5 : wb n = nI vb) (t6 : n < 8 * q + D t) (t7 : M q = true → B t = false) (b8 : pT p = nI t) (V : hv_V tk N nh H xv (vk vb) (vv vb) (vh vb)) (b1 : ws n = 1) (k2 : tk t = nI 16) (hm : w + (3 + 4 * (f t - f (t + 1))) + 512 * fl ≤ m + 1) : hr_D N xm yr ym tk tv af ms s g (nI N, xm, 0, 0, nI pn, nI fl, xd, nI (q + 1), nI nh, nI (p + 1), xt, xv, 1, tk, tv, af, dp, ib, ms, pr, gl, aH, aP, aB, lo, hP, pT, pL, pV) (nI N, yr, ym, yo, 0, 0, nI pn, nI fl, xd, nI an, nI (q + 1), nI (n + 1), nI (vb + 1), y1, y2, y3, tk, tv, pk, pv, gk, gv, gh, cn, cd, cD, cP, lk, lv, lh, yH, yPk, yPv, yPh, yM, yA, wt, wa, ws, wb, wx, vk, vv, vh) := by
  have C' := C
  obtain ⟨c1, c2, c3, c4, cA, cL, cG, cPr⟩ := C'
  have g1 := G.1
  have gL := G.2.1
  have gD := G.2.2.1 t t1
  have hT := G.2.2.2.2.2.2.2.1
  obtain ⟨a1, a2, h0, a3, a4, a5, a6⟩ := cA.1 q (Nat.lt_succ_self q)
  have hH0 := (cA.2.2.1 h0 a3).1
  have hHa : ∀ h, h < nh → H h < an := fun h hh => (cA.2.2.1 h hh).1
  obtain ⟨bd1, bd2, bd3, bd4, bb, bb1, bb2⟩ := hs_S_bd (fun t ht => (G.2.2.1 t ht).2) n p q vb w S
  have hpe : ¬ nI (p + 1) ≤ aB q := by rw [bb1]; exact nI_ge (by omega) (by omega)
  have VK := hv_VK g1 (by omega) V
  have gK : ∀ i, i < 8 → hv_K (gl i) (gk i) (gv i) := fun i hi => hv_VK g1 (by omega) (cG i hi)
  have hH : ∀ e, e ≤ q → ∃ h, h < 256 ∧ aH e = nI h := fun e he => by
    obtain ⟨_, _, h, h1, h2, _⟩ := cA.1 e (by omega)
    exact ⟨h, by omega, h2⟩
  have hhh : (yM (A q) = 0 ∧ yH (A q) = nI (H h0)) ∨ (yM (A q) ≠ 0 ∧ H h0 = A q) := a6.elim (fun x => Or.inr ⟨by rw [x.2.1]; decide, x.2.2⟩) (fun x => Or.inl ⟨x.2.1, a5⟩)
  have nor : hs_no tk N wt ws wx (H h0) n := ⟨t, t1, t2, fun x => by rw [k2] at x; exact absurd x.1 (by decide)⟩
  have A1 : ∀ i j, i < j → j ≤ q → A i < A j := fun i j x y => cA.2.1 i j x (by omega)
  have A2 : ∀ j, j ≤ q → A j < 2 ^ 31 := fun j x => by have := (cA.1 j (by omega)).1; omega
  have A3 : ∀ j, j < q + 1 → A j < an ∧ yA (A j) = 1 := fun j x => ⟨(cA.1 j x).1, (cA.1 j x).2.1⟩
  rcases (cA.2.2.1 h0 a3).2 with ⟨r, r1, r2, r3, r4⟩ | ⟨e1, e2⟩
  · cases r with
    | zero =>
      have no : ∀ j, 0 ≤ j → j < n + 1 → hs_no tk N wt ws wx (H h0) j := fun j _ hj => if e : j = n then e ▸ nor else by
        have := hs_S_root n p q vb w S A1 A2 j (by omega)
        rw [r4] at this; exact this
      exact hr_st hs hg (by decide) (wk_xb (by omega) (by omega) hpe (fun K h => wx_res67 (by omega) (by omega) b8 (k := 16) (by omega) k2 (Or.inl (by unfold hs_bin; decide)) (wx_ret1 (by omega) (by omega) a4 hH (Nat.zero_le _) r3 (fun _ => h) (fun x => absurd rfl x)))) (wk_ys (by omega) (by omega) (fun K h => wy_ret (by omega) t1 g1 (by omega) t2 t3 b1 k2 (by omega) (wy_ret1 (N := N) (by omega) hhh (by omega) (by omega) r1 r4 cA.2.1 A3 cA.2.2.2.2 g1 (by omega) (Nat.zero_le _) (Or.inl rfl) no (wy_165 h)))) (hr_F_mk VK c3 cPr gK)
    | succ r =>
      obtain ⟨b, p2, vb2, w2, tb, i1, i2, i3, i4, i5, i6, i7, i8, i9, i10, i11, i12⟩ := hs_S_cut n p q vb w S A1 A2 r (by omega)
      obtain ⟨j1, j2, -⟩ | ⟨-, -, j3⟩ := i11
      · have no : ∀ j, b + 1 ≤ j → j < n + 1 → hs_no tk N wt ws wx (H h0) j := fun j x hj => if e : j = n then e ▸ nor else by
          have := i12 j (by omega) (by omega)
          rw [r4] at this; exact this
        have cA' := hs_A_end (yA' := hy_c (H h0) an yA) cA (by omega) (by omega) (p := r + 1) r1 (fun mm x y => if_pos ⟨by omega, y⟩) (fun mm x => if_neg (by omega))
        exact hr_gb (by omega) (by omega) (by omega) (by omega) hpe (fun K h => wx_res67 (by omega) (by omega) b8 (k := 16) (by omega) k2 (Or.inl (by unfold hs_bin; decide)) (wx_ret1 (by omega) (by omega) a4 hH (by omega) r3 (fun x => nomatch x) (fun _ => h))) (fun K h => wy_ret (by omega) t1 g1 (by omega) t2 t3 b1 k2 (by omega) (wy_ret1 (N := N) (by omega) hhh (by omega) (by omega) r1 r4 cA.2.1 A3 cA.2.2.2.2 g1 (by omega) (by omega) (Or.inr ⟨b, tb, rfl, i4, i5, j2, j1, i8.trans (congrArg nI r4)⟩) no (wy_165' (by omega) (by omega) i6 h))) (by rw [i9]; exact IHb ⟨c1, c2, c3, by omega, cA', cL, cG, cPr⟩ (hs_t_v i2 _ _ _) (by rw [pk_us, pk_us, pk_us]; exact V) (by omega))
      · rw [r2] at j3; exact absurd j3 (by decide)
  · exact hr_st hs hg (by decide) (wk_xb (by omega) (by omega) hpe (fun K h => wx_res67 (by omega) (by omega) b8 (k := 16) (by omega) k2 (Or.inl (by unfold hs_bin; decide)) (wx_ret0 (by omega) (by omega) a4 e1 h))) (wk_ys (by omega) (by omega) (fun K h => wy_ret (by omega) t1 g1 (by omega) t2 t3 b1 k2 (by omega) (wy_ret0 (by omega) hhh (by omega) e2 h))) (hr_F_mk hv_K0 c3 cPr gK)
theorem hm_calc6 {xd xt yo y1 y2 y3 : Int32} {xv : Int64} {dp ib aH aB hP pT pL pk pv gk gv gh cn cd cD cP lk lv lh yH yPk yPv yPh yM yA wt wa ws wb wx vk vv vh : Nat → Int32} {pr gl aP lo pV : Nat → Int64} {n p q vb w nh an fl pn t : Nat} {A H : Nat → Nat} {M : Nat → Bool} (G : hp_G tk tv N f D B mc) (haf : ∀ t, t < N → af t = nI (f t)) (hms : ∀ m, m < mc → ms m = nI (hc_it f m 0)) (hs : s + 1 < 1000000) (hg : g + 1 < 4000000) (IHa : hr_PA tk tv N f D B xm yr ym af ms m (s + 1) (g + 1)) (IHb : hr_PB tk tv N f D B xm yr ym af ms m (s + 1) (g + 1)) (C : hr_C tk N (q + 1) nh an fl pn A H M gl pr aH aP lo hP pk pv gk gv gh lk lv lh yH yPk yPv yPh yM yA) (S : hs_S (hv_V tk N nh H) tk N f D B A M aB pT pL pV wt wa ws wb wx vk vv vh n p q vb w) (t1 : t < N) (t2 : wt n = nI t) (t3 : wa n = nI (A q)) (t5 : wb n = nI vb) (t6 : n < 8 * q + D t) (t7 : M q = true → B t = false) (b8 : pT p = nI t) (V : hv_V tk N nh H xv (vk (vb + 1)) (vv (vb + 1)) (vh (vb + 1))) (VL : hv_V tk N nh H (pV p) (vk vb) (vv vb) (vh vb)) (b1 : ws n = 2) (b9 : pL p = 1) (k2 : tk t = nI 6) (hm : w + 2 + 512 * fl ≤ m + 1) : hr_D N xm yr ym tk tv af ms s g (nI N, xm, 0, 0, nI pn, nI fl, xd, nI (q + 1), nI nh, nI (p + 1), xt, xv, 1, tk, tv, af, dp, ib, ms, pr, gl, aH, aP, aB, lo, hP, pT, pL, pV) (nI N, yr, ym, yo, 0, 0, nI pn, nI fl, xd, nI an, nI (q + 1), nI (n + 1), nI (vb + 1 + 1), y1, y2, y3, tk, tv, pk, pv, gk, gv, gh, cn, cd, cD, cP, lk, lv, lh, yH, yPk, yPv, yPh, yM, yA, wt, wa, ws, wb, wx, vk, vv, vh) := by
  have C' := C
  obtain ⟨c1, c2, c3, c4, cA, cL, cG, cPr⟩ := C'
  have g1 := G.1
  have gL := G.2.1
  have gD := G.2.2.1 t t1
  have hT := G.2.2.2.2.2.2.2.1
  obtain ⟨a1, a2, h0, a3, a4, a5, a6⟩ := cA.1 q (Nat.lt_succ_self q)
  have hH0 := (cA.2.2.1 h0 a3).1
  have hHa : ∀ h, h < nh → H h < an := fun h hh => (cA.2.2.1 h hh).1
  obtain ⟨bd1, bd2, bd3, bd4, bb, bb1, bb2⟩ := hs_S_bd (fun t ht => (G.2.2.1 t ht).2) n p q vb w S
  have hpe : ¬ nI (p + 1) ≤ aB q := by rw [bb1]; exact nI_ge (by omega) (by omega)
  have VK := hv_VK g1 (by omega) V
  have gK : ∀ i, i < 8 → hv_K (gl i) (gk i) (gv i) := fun i hi => hv_VK g1 (by omega) (cG i hi)
  have hH : ∀ e, e ≤ q → ∃ h, h < 256 ∧ aH e = nI h := fun e he => by
    obtain ⟨_, _, h, h1, h2, _⟩ := cA.1 e (by omega)
    exact ⟨h, by omega, h2⟩
  have VL' := hv_VK g1 (by omega) VL
  by_cases z : vk vb = 1 ∨ vk (vb + 1) = 1
  · exact hr_st hs hg (by decide) (wk_xb (by omega) (by omega) hpe (fun K h => wx_res67 (by omega) (by omega) b8 (k := 6) (by omega) k2 (Or.inr b9) (wx_calc6 (by omega) VL' VK (fun _ => h) (fun x y => by rw [x, y] at z; exact absurd z (by decide))))) (wk_ys (by omega) (by omega) (fun K h => wy_calc6 (by omega) t1 g1 (by omega) t2 t3 b1 k2 (by omega) (fun _ => h) (fun x y => absurd z (fun c => c.elim x y)))) (hr_F_mk hv_K0 c3 cPr gK)
  · have z1 : vk vb ≠ 1 := fun x => z (Or.inl x)
    have z2 : vk (vb + 1) ≠ 1 := fun x => z (Or.inr x)
    exact hr_gb (by omega) (by omega) (by omega) (by omega) hpe (fun K h => wx_res67 (by omega) (by omega) b8 (k := 6) (by omega) k2 (Or.inr b9) (wx_calc6 (by omega) VL' VK (fun x => absurd x z) (fun _ _ => h))) (fun K h => wy_calc6 (by omega) t1 g1 (by omega) t2 t3 b1 k2 (by omega) (fun x => absurd x z) (fun _ _ => h)) (IHb C (hs_t_v S _ _ _) (by rw [pk_us, pk_us, pk_us]; exact Or.inl ⟨rfl, rfl⟩) (by omega))
theorem hm_calc7 {xd xt yo y1 y2 y3 : Int32} {xv : Int64} {dp ib aH aB hP pT pL pk pv gk gv gh cn cd cD cP lk lv lh yH yPk yPv yPh yM yA wt wa ws wb wx vk vv vh : Nat → Int32} {pr gl aP lo pV : Nat → Int64} {n p q vb w nh an fl pn t : Nat} {A H : Nat → Nat} {M : Nat → Bool} (G : hp_G tk tv N f D B mc) (haf : ∀ t, t < N → af t = nI (f t)) (hms : ∀ m, m < mc → ms m = nI (hc_it f m 0)) (hs : s + 1 < 1000000) (hg : g + 1 < 4000000) (IHa : hr_PA tk tv N f D B xm yr ym af ms m (s + 1) (g + 1)) (IHb : hr_PB tk tv N f D B xm yr ym af ms m (s + 1) (g + 1)) (C : hr_C tk N (q + 1) nh an fl pn A H M gl pr aH aP lo hP pk pv gk gv gh lk lv lh yH yPk yPv yPh yM yA) (S : hs_S (hv_V tk N nh H) tk N f D B A M aB pT pL pV wt wa ws wb wx vk vv vh n p q vb w) (t1 : t < N) (t2 : wt n = nI t) (t3 : wa n = nI (A q)) (t5 : wb n = nI vb) (t6 : n < 8 * q + D t) (t7 : M q = true → B t = false) (b8 : pT p = nI t) (V : hv_V tk N nh H xv (vk (vb + 1)) (vv (vb + 1)) (vh (vb + 1))) (VL : hv_V tk N nh H (pV p) (vk vb) (vv vb) (vh vb)) (b1 : ws n = 2) (b9 : pL p = 1) (k2 : tk t = nI 7) (hm : w + 2 + 512 * fl ≤ m + 1) : hr_D N xm yr ym tk tv af ms s g (nI N, xm, 0, 0, nI pn, nI fl, xd, nI (q + 1), nI nh, nI (p + 1), xt, xv, 1, tk, tv, af, dp, ib, ms, pr, gl, aH, aP, aB, lo, hP, pT, pL, pV) (nI N, yr, ym, yo, 0, 0, nI pn, nI fl, xd, nI an, nI (q + 1), nI (n + 1), nI (vb + 1 + 1), y1, y2, y3, tk, tv, pk, pv, gk, gv, gh, cn, cd, cD, cP, lk, lv, lh, yH, yPk, yPv, yPh, yM, yA, wt, wa, ws, wb, wx, vk, vv, vh) := by
  have C' := C
  obtain ⟨c1, c2, c3, c4, cA, cL, cG, cPr⟩ := C'
  have g1 := G.1
  have gL := G.2.1
  have gD := G.2.2.1 t t1
  have hT := G.2.2.2.2.2.2.2.1
  obtain ⟨a1, a2, h0, a3, a4, a5, a6⟩ := cA.1 q (Nat.lt_succ_self q)
  have hH0 := (cA.2.2.1 h0 a3).1
  have hHa : ∀ h, h < nh → H h < an := fun h hh => (cA.2.2.1 h hh).1
  obtain ⟨bd1, bd2, bd3, bd4, bb, bb1, bb2⟩ := hs_S_bd (fun t ht => (G.2.2.1 t ht).2) n p q vb w S
  have hpe : ¬ nI (p + 1) ≤ aB q := by rw [bb1]; exact nI_ge (by omega) (by omega)
  have VK := hv_VK g1 (by omega) V
  have gK : ∀ i, i < 8 → hv_K (gl i) (gk i) (gv i) := fun i hi => hv_VK g1 (by omega) (cG i hi)
  have hH : ∀ e, e ≤ q → ∃ h, h < 256 ∧ aH e = nI h := fun e he => by
    obtain ⟨_, _, h, h1, h2, _⟩ := cA.1 e (by omega)
    exact ⟨h, by omega, h2⟩
  have VL' := hv_VK g1 (by omega) VL
  by_cases z : vk vb = 1 ∨ vk (vb + 1) = 1
  · exact hr_st hs hg (by decide) (wk_xb (by omega) (by omega) hpe (fun K h => wx_res67 (by omega) (by omega) b8 (k := 7) (by omega) k2 (Or.inr b9) (wx_calc7 (by omega) VL' VK (fun _ => h) (fun x y => by rw [x, y] at z; exact absurd z (by decide))))) (wk_ys (by omega) (by omega) (fun K h => wy_calc7 (by omega) t1 g1 (by omega) t2 t3 b1 k2 (by omega) (fun _ => h) (fun x y => absurd z (fun c => c.elim x y)))) (hr_F_mk hv_K0 c3 cPr gK)
  · have z1 : vk vb ≠ 1 := fun x => z (Or.inl x)
    have z2 : vk (vb + 1) ≠ 1 := fun x => z (Or.inr x)
    exact hr_gb (by omega) (by omega) (by omega) (by omega) hpe (fun K h => wx_res67 (by omega) (by omega) b8 (k := 7) (by omega) k2 (Or.inr b9) (wx_calc7 (by omega) VL' VK (fun x => absurd x z) (fun _ _ => h))) (fun K h => wy_calc7 (by omega) t1 g1 (by omega) t2 t3 b1 k2 (by omega) (fun x => absurd x z) (fun _ _ => h)) (IHb C (hs_t_v S _ _ _) (by rw [pk_us, pk_us, pk_us]; exact Or.inl ⟨rfl, rfl⟩) (by omega))
theorem hm_calc8 {xd xt yo y1 y2 y3 : Int32} {xv : Int64} {dp ib aH aB hP pT pL pk pv gk gv gh cn cd cD cP lk lv lh yH yPk yPv yPh yM yA wt wa ws wb wx vk vv vh : Nat → Int32} {pr gl aP lo pV : Nat → Int64} {n p q vb w nh an fl pn t : Nat} {A H : Nat → Nat} {M : Nat → Bool} (G : hp_G tk tv N f D B mc) (haf : ∀ t, t < N → af t = nI (f t)) (hms : ∀ m, m < mc → ms m = nI (hc_it f m 0)) (hs : s + 1 < 1000000) (hg : g + 1 < 4000000) (IHa : hr_PA tk tv N f D B xm yr ym af ms m (s + 1) (g + 1)) (IHb : hr_PB tk tv N f D B xm yr ym af ms m (s + 1) (g + 1)) (C : hr_C tk N (q + 1) nh an fl pn A H M gl pr aH aP lo hP pk pv gk gv gh lk lv lh yH yPk yPv yPh yM yA) (S : hs_S (hv_V tk N nh H) tk N f D B A M aB pT pL pV wt wa ws wb wx vk vv vh n p q vb w) (t1 : t < N) (t2 : wt n = nI t) (t3 : wa n = nI (A q)) (t5 : wb n = nI vb) (t6 : n < 8 * q + D t) (t7 : M q = true → B t = false) (b8 : pT p = nI t) (V : hv_V tk N nh H xv (vk (vb + 1)) (vv (vb + 1)) (vh (vb + 1))) (VL : hv_V tk N nh H (pV p) (vk vb) (vv vb) (vh vb)) (b1 : ws n = 2) (b9 : pL p = 1) (k2 : tk t = nI 8) (hm : w + 2 + 512 * fl ≤ m + 1) : hr_D N xm yr ym tk tv af ms s g (nI N, xm, 0, 0, nI pn, nI fl, xd, nI (q + 1), nI nh, nI (p + 1), xt, xv, 1, tk, tv, af, dp, ib, ms, pr, gl, aH, aP, aB, lo, hP, pT, pL, pV) (nI N, yr, ym, yo, 0, 0, nI pn, nI fl, xd, nI an, nI (q + 1), nI (n + 1), nI (vb + 1 + 1), y1, y2, y3, tk, tv, pk, pv, gk, gv, gh, cn, cd, cD, cP, lk, lv, lh, yH, yPk, yPv, yPh, yM, yA, wt, wa, ws, wb, wx, vk, vv, vh) := by
  have C' := C
  obtain ⟨c1, c2, c3, c4, cA, cL, cG, cPr⟩ := C'
  have g1 := G.1
  have gL := G.2.1
  have gD := G.2.2.1 t t1
  have hT := G.2.2.2.2.2.2.2.1
  obtain ⟨a1, a2, h0, a3, a4, a5, a6⟩ := cA.1 q (Nat.lt_succ_self q)
  have hH0 := (cA.2.2.1 h0 a3).1
  have hHa : ∀ h, h < nh → H h < an := fun h hh => (cA.2.2.1 h hh).1
  obtain ⟨bd1, bd2, bd3, bd4, bb, bb1, bb2⟩ := hs_S_bd (fun t ht => (G.2.2.1 t ht).2) n p q vb w S
  have hpe : ¬ nI (p + 1) ≤ aB q := by rw [bb1]; exact nI_ge (by omega) (by omega)
  have VK := hv_VK g1 (by omega) V
  have gK : ∀ i, i < 8 → hv_K (gl i) (gk i) (gv i) := fun i hi => hv_VK g1 (by omega) (cG i hi)
  have hH : ∀ e, e ≤ q → ∃ h, h < 256 ∧ aH e = nI h := fun e he => by
    obtain ⟨_, _, h, h1, h2, _⟩ := cA.1 e (by omega)
    exact ⟨h, by omega, h2⟩
  have VL' := hv_VK g1 (by omega) VL
  by_cases z : vk vb = 1 ∨ vk (vb + 1) = 1
  · exact hr_st hs hg (by decide) (wk_xb (by omega) (by omega) hpe (fun K h => wx_res67 (by omega) (by omega) b8 (k := 8) (by omega) k2 (Or.inr b9) (wx_calc8 (by omega) VL' VK (fun _ => h) (fun x y => by rw [x, y] at z; exact absurd z (by decide))))) (wk_ys (by omega) (by omega) (fun K h => wy_calc8 (by omega) t1 g1 (by omega) t2 t3 b1 k2 (by omega) (fun _ => h) (fun x y => absurd z (fun c => c.elim x y)))) (hr_F_mk hv_K0 c3 cPr gK)
  · have z1 : vk vb ≠ 1 := fun x => z (Or.inl x)
    have z2 : vk (vb + 1) ≠ 1 := fun x => z (Or.inr x)
    exact hr_gb (by omega) (by omega) (by omega) (by omega) hpe (fun K h => wx_res67 (by omega) (by omega) b8 (k := 8) (by omega) k2 (Or.inr b9) (wx_calc8 (by omega) VL' VK (fun x => absurd x z) (fun _ _ => h))) (fun K h => wy_calc8 (by omega) t1 g1 (by omega) t2 t3 b1 k2 (by omega) (fun x => absurd x z) (fun _ _ => h)) (IHb C (hs_t_v S _ _ _) (by rw [pk_us, pk_us, pk_us]; exact Or.inl ⟨rfl, rfl⟩) (by omega))
theorem hm_calc9 {xd xt yo y1 y2 y3 : Int32} {xv : Int64} {dp ib aH aB hP pT pL pk pv gk gv gh cn cd cD cP lk lv lh yH yPk yPv yPh yM yA wt wa ws wb wx vk vv vh : Nat → Int32} {pr gl aP lo pV : Nat → Int64} {n p q vb w nh an fl pn t : Nat} {A H : Nat → Nat} {M : Nat → Bool} (G : hp_G tk tv N f D B mc) (haf : ∀ t, t < N → af t = nI (f t)) (hms : ∀ m, m < mc → ms m = nI (hc_it f m 0)) (hs : s + 1 < 1000000) (hg : g + 1 < 4000000) (IHa : hr_PA tk tv N f D B xm yr ym af ms m (s + 1) (g + 1)) (IHb : hr_PB tk tv N f D B xm yr ym af ms m (s + 1) (g + 1)) (C : hr_C tk N (q + 1) nh an fl pn A H M gl pr aH aP lo hP pk pv gk gv gh lk lv lh yH yPk yPv yPh yM yA) (S : hs_S (hv_V tk N nh H) tk N f D B A M aB pT pL pV wt wa ws wb wx vk vv vh n p q vb w) (t1 : t < N) (t2 : wt n = nI t) (t3 : wa n = nI (A q)) (t5 : wb n = nI vb) (t6 : n < 8 * q + D t) (t7 : M q = true → B t = false) (b8 : pT p = nI t) (V : hv_V tk N nh H xv (vk (vb + 1)) (vv (vb + 1)) (vh (vb + 1))) (VL : hv_V tk N nh H (pV p) (vk vb) (vv vb) (vh vb)) (b1 : ws n = 2) (b9 : pL p = 1) (k2 : tk t = nI 9) (hm : w + 2 + 512 * fl ≤ m + 1) : hr_D N xm yr ym tk tv af ms s g (nI N, xm, 0, 0, nI pn, nI fl, xd, nI (q + 1), nI nh, nI (p + 1), xt, xv, 1, tk, tv, af, dp, ib, ms, pr, gl, aH, aP, aB, lo, hP, pT, pL, pV) (nI N, yr, ym, yo, 0, 0, nI pn, nI fl, xd, nI an, nI (q + 1), nI (n + 1), nI (vb + 1 + 1), y1, y2, y3, tk, tv, pk, pv, gk, gv, gh, cn, cd, cD, cP, lk, lv, lh, yH, yPk, yPv, yPh, yM, yA, wt, wa, ws, wb, wx, vk, vv, vh) := by
  have C' := C
  obtain ⟨c1, c2, c3, c4, cA, cL, cG, cPr⟩ := C'
  have g1 := G.1
  have gL := G.2.1
  have gD := G.2.2.1 t t1
  have hT := G.2.2.2.2.2.2.2.1
  obtain ⟨a1, a2, h0, a3, a4, a5, a6⟩ := cA.1 q (Nat.lt_succ_self q)
  have hH0 := (cA.2.2.1 h0 a3).1
  have hHa : ∀ h, h < nh → H h < an := fun h hh => (cA.2.2.1 h hh).1
  obtain ⟨bd1, bd2, bd3, bd4, bb, bb1, bb2⟩ := hs_S_bd (fun t ht => (G.2.2.1 t ht).2) n p q vb w S
  have hpe : ¬ nI (p + 1) ≤ aB q := by rw [bb1]; exact nI_ge (by omega) (by omega)
  have VK := hv_VK g1 (by omega) V
  have gK : ∀ i, i < 8 → hv_K (gl i) (gk i) (gv i) := fun i hi => hv_VK g1 (by omega) (cG i hi)
  have hH : ∀ e, e ≤ q → ∃ h, h < 256 ∧ aH e = nI h := fun e he => by
    obtain ⟨_, _, h, h1, h2, _⟩ := cA.1 e (by omega)
    exact ⟨h, by omega, h2⟩
  have VL' := hv_VK g1 (by omega) VL
  by_cases z : vk vb = 1 ∨ vk (vb + 1) = 1
  · exact hr_st hs hg (by decide) (wk_xb (by omega) (by omega) hpe (fun K h => wx_res67 (by omega) (by omega) b8 (k := 9) (by omega) k2 (Or.inr b9) (wx_calc9 (by omega) VL' VK (fun _ => h) (fun x y => by rw [x, y] at z; exact absurd z (by decide))))) (wk_ys (by omega) (by omega) (fun K h => wy_calc9 (by omega) t1 g1 (by omega) t2 t3 b1 k2 (by omega) (fun _ => h) (fun x y => absurd z (fun c => c.elim x y)))) (hr_F_mk hv_K0 c3 cPr gK)
  · have z1 : vk vb ≠ 1 := fun x => z (Or.inl x)
    have z2 : vk (vb + 1) ≠ 1 := fun x => z (Or.inr x)
    exact hr_gb (by omega) (by omega) (by omega) (by omega) hpe (fun K h => wx_res67 (by omega) (by omega) b8 (k := 9) (by omega) k2 (Or.inr b9) (wx_calc9 (by omega) VL' VK (fun x => absurd x z) (fun _ _ => h))) (fun K h => wy_calc9 (by omega) t1 g1 (by omega) t2 t3 b1 k2 (by omega) (fun x => absurd x z) (fun _ _ => h)) (IHb C (hs_t_v S _ _ _) (by rw [pk_us, pk_us, pk_us]; exact Or.inl ⟨rfl, rfl⟩) (by omega))
theorem hm_value {xd xt yo y1 y2 y3 : Int32} {xv : Int64} {dp ib aH aB hP pT pL pk pv gk gv gh cn cd cD cP lk lv lh yH yPk yPv yPh yM yA wt wa ws wb wx vk vv vh : Nat → Int32} {pr gl aP lo pV : Nat → Int64} {n p q vb w nh an fl pn t : Nat} {A H : Nat → Nat} {M : Nat → Bool} (G : hp_G tk tv N f D B mc) (haf : ∀ t, t < N → af t = nI (f t)) (hms : ∀ m, m < mc → ms m = nI (hc_it f m 0)) (hs : s + 1 < 1000000) (hg : g + 1 < 4000000) (IHa : hr_PA tk tv N f D B xm yr ym af ms m (s + 1) (g + 1)) (IHb : hr_PB tk tv N f D B xm yr ym af ms m (s + 1) (g + 1)) (C : hr_C tk N (q + 1) nh an fl pn A H M gl pr aH aP lo hP pk pv gk gv gh lk lv lh yH yPk yPv yPh yM yA) (S : hs_S (hv_V tk N nh H) tk N f D B A M aB pT pL pV wt wa ws wb wx vk vv vh n p q vb w) (t1 : t < N) (t2 : wt n = nI t) (t3 : wa n = nI (A q)) (t5 : wb n = nI vb) (t6 : n < 8 * q + D t) (t7 : M q = true → B t = false) (b8 : pT p = nI t) (V : hv_V tk N nh H xv (vk (vb + 1)) (vv (vb + 1)) (vh (vb + 1))) (VL : hv_V tk N nh H (pV p) (vk vb) (vv vb) (vh vb)) (b1 : ws n = 2) (b9 : pL p = 1) (k2 : tk t = nI 14) (hm : w + 2 + 512 * fl ≤ m + 1) : hr_D N xm yr ym tk tv af ms s g (nI N, xm, 0, 0, nI pn, nI fl, xd, nI (q + 1), nI nh, nI (p + 1), xt, xv, 1, tk, tv, af, dp, ib, ms, pr, gl, aH, aP, aB, lo, hP, pT, pL, pV) (nI N, yr, ym, yo, 0, 0, nI pn, nI fl, xd, nI an, nI (q + 1), nI (n + 1), nI (vb + 1 + 1), y1, y2, y3, tk, tv, pk, pv, gk, gv, gh, cn, cd, cD, cP, lk, lv, lh, yH, yPk, yPv, yPh, yM, yA, wt, wa, ws, wb, wx, vk, vv, vh) := by
  have C' := C
  obtain ⟨c1, c2, c3, c4, cA, cL, cG, cPr⟩ := C'
  have g1 := G.1
  have gL := G.2.1
  have gD := G.2.2.1 t t1
  have hT := G.2.2.2.2.2.2.2.1
  obtain ⟨a1, a2, h0, a3, a4, a5, a6⟩ := cA.1 q (Nat.lt_succ_self q)
  have hH0 := (cA.2.2.1 h0 a3).1
  have hHa : ∀ h, h < nh → H h < an := fun h hh => (cA.2.2.1 h hh).1
  obtain ⟨bd1, bd2, bd3, bd4, bb, bb1, bb2⟩ := hs_S_bd (fun t ht => (G.2.2.1 t ht).2) n p q vb w S
  have hpe : ¬ nI (p + 1) ≤ aB q := by rw [bb1]; exact nI_ge (by omega) (by omega)
  have VK := hv_VK g1 (by omega) V
  have gK : ∀ i, i < 8 → hv_K (gl i) (gk i) (gv i) := fun i hi => hv_VK g1 (by omega) (cG i hi)
  have hH : ∀ e, e ≤ q → ∃ h, h < 256 ∧ aH e = nI h := fun e he => by
    obtain ⟨_, _, h, h1, h2, _⟩ := cA.1 e (by omega)
    exact ⟨h, by omega, h2⟩
  have VL' := hv_VK g1 (by omega) VL
  rcases VL with ⟨z, zz⟩ | ⟨z, tb, hb, d1, d2, d3, d4, d5, d6⟩
  · have z1 : vk vb ≠ 1 := by rw [z]; decide
    exact hr_st hs hg (by decide) (wk_xb (by omega) (by omega) hpe (fun K h => wx_res67 (by omega) (by omega) b8 (k := 14) (by omega) k2 (Or.inr b9) (wx_value (by omega) (by omega) (by omega) VL' (tb := 0) (hb := 0) (fun x => absurd x z1) (fun _ => h) (fun x => absurd x z1) (fun x => absurd x z1) (fun x => absurd x z1)))) (wk_ys (by omega) (by omega) (fun K h => wy_value2 (by omega) t1 g1 (by omega) t2 t3 b1 k2 (by omega) (by omega) (by omega) (fun _ => by omega) (tb := 0) (hb := 0) (fun x => absurd x z1) (fun _ => h) (fun x => absurd x z1) (fun x => absurd x z1) (fun x => absurd x z1))) (hr_F_mk hv_K0 c3 cPr gK)
  · have z0 : vk vb ≠ 0 := by rw [z]; decide
    have xb : vk vb = 1 → pV p = hv_b tb hb ∧ tb < 128 ∧ hb < 256 := fun _ => ⟨d6, by omega, by omega⟩
    have hHb := hHa hb d3
    have yb : vk vb = 1 → vv vb = nI tb ∧ vh vb = nI (H hb) ∧ H hb < an := fun _ => ⟨d4, d5, hHb⟩
    have p1 := hp_1 G d1 (by rw [d2]; decide)
    have p2 := hp_lt G p1.1
    cases fl with
    | zero => exact hr_st hs hg (by decide) (wk_xb (by omega) (by omega) hpe (fun K h => wx_res67 (by omega) (by omega) b8 (k := 14) (by omega) k2 (Or.inr b9) (wx_value (by omega) (by omega) (by omega) VL' xb (fun x => absurd x z0) (fun _ _ => h) (fun _ f1 e => nomatch e) (fun _ f1 e => nomatch e)))) (wk_ys (by omega) (by omega) (fun K h => wy_value2 (by omega) t1 g1 (by omega) t2 t3 b1 k2 (by omega) (by omega) (by omega) (fun _ => by omega) yb (fun x => absurd z x) (fun _ _ => h) (fun _ f1 e => nomatch e) (fun _ f1 e => nomatch e))) (hr_F_mk hv_K0 c3 cPr gK)
    | succ f1 =>
      by_cases y : q + 1 = 16
      · have X1 : ∀ K : SX → Prop, K (nI N, xm, 5, 0, nI pn, nI f1, xd, nI (q + 1), nI nh, nI p, xt, xv, 1, tk, tv, af, dp, ib, ms, pr, gl, aH, aP, aB, lo, hP, pT, pL, pV) → wpX_resumeToken K (nI N, xm, 0, 0, nI pn, nI (f1 + 1), xd, nI (q + 1), nI nh, nI (p + 1), xt, xv, 1, tk, tv, af, dp, ib, ms, pr, gl, aH, aP, aB, lo, hP, pT, pL, pV) := fun K h => wx_res67 (by omega) (by omega) b8 (k := 14) (by omega) k2 (Or.inr b9) (wx_value (by omega) (by omega) (by omega) VL' xb (fun x => absurd x z0) (fun _ e => nomatch e) (fun _ f2 e _ => by cases e; exact h) (fun _ f2 e z2 => absurd y (by omega)))
        have Y1 : ∀ K : Int32 → SY → Prop, K 5 (nI N, yr, ym, yo, 0, 0, nI pn, nI f1, xd, nI an, nI (q + 1), nI (n + 1), nI vb, vk vb, vv vb, vh vb, tk, tv, pk, pv, gk, gv, gh, cn, cd, cD, cP, lk, lv, lh, yH, yPk, yPv, yPh, yM, yA, wt, wa, ws, wb, wx, vk, vv, vh) → wpY_step K (nI N, yr, ym, yo, 0, 0, nI pn, nI (f1 + 1), xd, nI an, nI (q + 1), nI (n + 1), nI (vb + 1 + 1), y1, y2, y3, tk, tv, pk, pv, gk, gv, gh, cn, cd, cD, cP, lk, lv, lh, yH, yPk, yPv, yPh, yM, yA, wt, wa, ws, wb, wx, vk, vv, vh) := fun K h => wy_value2 (by omega) t1 g1 (by omega) t2 t3 b1 k2 (by omega) (by omega) (by omega) (fun _ => by omega) yb (fun x => absurd z x) (fun _ e => nomatch e) (fun _ f2 e _ => by cases e; exact h) (fun _ f2 e z2 => absurd y (by omega))
        exact hr_st hs hg (by decide) (wk_xb (by omega) (by omega) hpe X1) (wk_ys (by omega) (by omega) Y1) (hr_F_mk hv_K0 c3 cPr gK)
      · obtain ⟨S2, T2⟩ := hs_t_c (an := an) (b := false) (fun _ _ _ _ h => h) G.2.2.1 S t1 t2 t3 t5 t6 t7 (Or.inr ⟨rfl, k2, rfl⟩) p1.1 (fun x => nomatch x)
        exact hr_gb (by omega) (by omega) (by omega) (by omega) hpe (fun K h => wx_res67 (by omega) (by omega) b8 (k := 14) (by omega) k2 (Or.inr b9) (wx_value (by omega) (by omega) (by omega) VL' xb (fun x => absurd x z0) (fun _ e => nomatch e) (fun _ f2 e z2 => absurd z2 y) (fun _ f2 e _ => by cases e; exact h))) (fun K h => wy_value2 (by omega) t1 g1 (by omega) t2 t3 b1 k2 (by omega) (by omega) (by omega) (fun _ => by omega) yb (fun x => absurd z x) (fun _ e => nomatch e) (fun _ f2 e z2 => absurd z2 y) (fun _ f2 e _ => by cases e; exact h)) (IHa ⟨by omega, by omega, c3, by omega, hs_A_block cA d3 V, hs_L_blk cL hHa, cG, cPr⟩ S2 T2 (by omega))
theorem hm_end {xd xt yo y1 y2 y3 : Int32} {xv : Int64} {dp ib aH aB hP pT pL pk pv gk gv gh cn cd cD cP lk lv lh yH yPk yPv yPh yM yA wt wa ws wb wx vk vv vh : Nat → Int32} {pr gl aP lo pV : Nat → Int64} {n p q vb w nh an fl pn t : Nat} {A H : Nat → Nat} {M : Nat → Bool} (G : hp_G tk tv N f D B mc) (haf : ∀ t, t < N → af t = nI (f t)) (hms : ∀ m, m < mc → ms m = nI (hc_it f m 0)) (hs : s + 1 < 1000000) (hg : g + 1 < 4000000) (IHa : hr_PA tk tv N f D B xm yr ym af ms m (s + 1) (g + 1)) (IHb : hr_PB tk tv N f D B xm yr ym af ms m (s + 1) (g + 1)) (C : hr_C tk N (q + 1 + 1) nh an fl pn A H M gl pr aH aP lo hP pk pv gk gv gh lk lv lh yH yPk yPv yPh yM yA) (S : hs_S (hv_V tk N nh H) tk N f D B A M aB pT pL pV wt wa ws wb wx vk vv vh n p q vb w) (t1 : t < N) (t2 : wt n = nI t) (t3 : wa n = nI (A q)) (t5 : wb n = nI vb) (t6 : n < 8 * q + D t) (t7 : M q = true → B t = false) (b4 : wx n = nI (A (q + 1))) (b5 : aB (q + 1) = nI p) (b6 : (ws n = 2 ∧ tk t = 15 ∧ M (q + 1) = true) ∨ (ws n = 3 ∧ tk t = 14 ∧ M (q + 1) = false)) (V : hv_V tk N nh H xv (vk vb) (vv vb) (vh vb)) (hm : w + 1 + 512 * fl ≤ m + 1) : hr_D N xm yr ym tk tv af ms s g (nI N, xm, 0, 0, nI pn, nI fl, xd, nI (q + 1 + 1), nI nh, nI p, xt, xv, 1, tk, tv, af, dp, ib, ms, pr, gl, aH, aP, aB, lo, hP, pT, pL, pV) (nI N, yr, ym, yo, 0, 0, nI pn, nI fl, xd, nI an, nI (q + 1 + 1), nI (n + 1), nI (vb + 1), y1, y2, y3, tk, tv, pk, pv, gk, gv, gh, cn, cd, cD, cP, lk, lv, lh, yH, yPk, yPv, yPh, yM, yA, wt, wa, ws, wb, wx, vk, vv, vh) := by
  have C' := C
  obtain ⟨c1, c2, c3, c4, cA, cL, cG, cPr⟩ := C'
  have g1 := G.1
  have gD := G.2.2.1 t t1
  obtain ⟨a1, a2, h0, a3, a4, a5, a6⟩ := cA.1 (q + 1) (Nat.lt_succ_self _)
  obtain ⟨d1, d2, d3⟩ := cA.1 q (by omega)
  obtain ⟨bd1, bd2, bd3, bd4, bb, bb1, bb2⟩ := hs_S_bd (fun t ht => (G.2.2.1 t ht).2) n p q vb w S
  have hH : ∀ e, e ≤ q + 1 → ∃ h, h < 256 ∧ aH e = nI h := fun e he => by
    obtain ⟨_, _, h, h1, h2, _⟩ := cA.1 e (by omega)
    exact ⟨h, by omega, h2⟩
  have cA' := hs_A_end (yA' := upd yA (A (q + 1)) 0) cA (by omega) (by omega) (p := q + 1) (by omega) (fun mm x y => by
    by_cases e : mm = A (q + 1)
    · rw [e]; exact pk_us
    · rw [pk_un e]
      rcases cA.2.2.2.2 mm y with z | ⟨r, r1, r2⟩
      · exact z
      · have r3 : r ≤ q + 1 := by omega
        rcases Nat.lt_or_ge r (q + 1) with x1 | x1
        · have := cA.2.1 r (q + 1) x1 (by omega); omega
        · have x2 : r = q + 1 := by omega
          rw [x2] at r2; omega) (fun mm x => pk_un (by omega))
  have hpe : nI p ≤ aB (q + 1) := by rw [b5]; exact nI_le (Nat.le_refl _) (by omega)
  have key : hr_D N xm yr ym tk tv af ms (s + 1) (g + 1) (nI N, xm, 0, 0, nI pn, nI fl, xd, nI (q + 1), nI nh, aB (q + 1), xt, xv, 1, tk, tv, af, dp, ib, ms, pr, gl, aH, aP, aB, lo, hx_end aH (q + 1) (q + 1 + 1) hP, pT, pL, pV) (nI N, yr, ym, yo, 0, 0, nI pn, nI fl, xd, nI an, nI (q + 1), nI n, nI (vb + 1), vk vb, vv vb, vh vb, tk, tv, pk, pv, gk, gv, gh, cn, cd, cD, cP, lk, lv, lh, yH, yPk, yPv, yPh, yM, upd yA (A (q + 1)) 0, wt, wa, ws, wb, wx, upd vk vb (vk vb), upd vv vb (vv vb), upd vh vb (vh vb)) := by
    rw [b5]
    exact IHb ⟨c1, c2, c3, by omega, cA', cL, cG, cPr⟩ (hs_t_v S _ _ _) (by rw [pk_us, pk_us, pk_us]; exact V) (by omega)
  rcases b6 with ⟨e1, e2, -⟩ | ⟨e1, e2, -⟩
  · exact hr_gr (by omega) (by omega) (by omega) (by omega) hpe (fun K h => wx_returnFrom (by omega) (Nat.le_refl _) hH (fun x => nomatch x) (fun _ => h)) (fun K h => wy_call2 (by omega) t1 g1 (by omega) t2 t3 e1 e2 (by omega) (by omega) (by omega) b4 a2 t5 h) key
  · exact hr_gr (by omega) (by omega) (by omega) (by omega) hpe (fun K h => wx_returnFrom (by omega) (Nat.le_refl _) hH (fun x => nomatch x) (fun _ => h)) (fun K h => wy_value3 (by omega) t1 g1 (by omega) t2 t3 e1 e2 (by omega) (by omega) (by omega) b4 a2 t5 h) key
end
