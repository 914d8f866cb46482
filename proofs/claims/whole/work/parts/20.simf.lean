theorem hs_S_w {V : Int64 → Int32 → Int32 → Int32 → Prop} {tk : Nat → Int32} {N : Nat} {f D : Nat → Nat} {B : Nat → Bool} {A : Nat → Nat} {M : Nat → Bool} {xB pT pL : Nat → Int32} {pV : Nat → Int64} {wt wa ws wb wx vk vv vh : Nat → Int32} : ∀ n p q vb w, hs_S V tk N f D B A M xB pT pL pV wt wa ws wb wx vk vv vh n p q vb w → n ≤ w
  | 0, _, _, _, _, _ => Nat.zero_le _
  | n + 1, p, q, vb, w, h => by
    obtain ⟨t, p', q', vb', w', S, -, -, -, -, -, -, h⟩ := h
    have i := hs_S_w n p' q' vb' w' S
    rcases h with ⟨-, -, -, -, -, -, e, -⟩ | ⟨-, -, -, -, -, e, -⟩ | ⟨-, -, -, -, -, e⟩ | ⟨-, -, -, -, -, e⟩ | ⟨-, -, -, e, -⟩ <;> omega
section
variable {tk tv : Nat → Int32} {N mc : Nat} {f D : Nat → Nat} {B : Nat → Bool} {xm yr ym : Int32} {af ms : Nat → Int32} {m s g : Nat}
theorem hm_fin {xd xt yo y1 y2 y3 : Int32} {xv : Int64} {dp ib aH aB hP pT pL pk pv gk gv gh cn cd cD cP lk lv lh yH yPk yPv yPh yM yA wt wa ws wb wx vk vv vh : Nat → Int32} {pr gl aP lo pV : Nat → Int64} {p q vb w nh an fl pn : Nat} {A H : Nat → Nat} {M : Nat → Bool} (G : hp_G tk tv N f D B mc) (hs : s + 1 < 1000000) (hg : g + 1 < 4000000)
    (C : hr_C tk N (q + 1) nh an fl pn A H M gl pr aH aP lo hP pk pv gk gv gh lk lv lh yH yPk yPv yPh yM yA) (S : hs_S (hv_V tk N nh H) tk N f D B A M aB pT pL pV wt wa ws wb wx vk vv vh 0 p q vb w) (V : hv_V tk N nh H xv (vk vb) (vv vb) (vh vb)) :
    hr_D N xm yr ym tk tv af ms s g (nI N, xm, 0, 0, nI pn, nI fl, xd, nI (q + 1), nI nh, nI p, xt, xv, 1, tk, tv, af, dp, ib, ms, pr, gl, aH, aP, aB, lo, hP, pT, pL, pV) (nI N, yr, ym, yo, 0, 0, nI pn, nI fl, xd, nI an, nI (q + 1), nI 0, nI (vb + 1), y1, y2, y3, tk, tv, pk, pv, gk, gv, gh, cn, cd, cD, cP, lk, lv, lh, yH, yPk, yPv, yPh, yM, yA, wt, wa, ws, wb, wx, vk, vv, vh) := by
  obtain ⟨rfl, rfl, rfl, rfl, x0⟩ := S
  obtain ⟨c1, c2, c3, c4, cA, cL, cG, cPr⟩ := C
  have g1 := G.1
  have hH : ∀ e, e ≤ 0 → ∃ h, h < 256 ∧ aH e = nI h := fun e he => by
    obtain ⟨_, _, h, h1, h2, _⟩ := cA.1 e (by omega)
    exact ⟨h, by omega, h2⟩
  have VK := hv_VK g1 (by omega) V
  have gK : ∀ i, i < 8 → hv_K (gl i) (gk i) (gv i) := fun i hi => hv_VK g1 (by omega) (cG i hi)
  have hpe : nI 0 ≤ aB 0 := by rw [x0]; exact nI_le (Nat.le_refl _) (by omega)
  by_cases z : yA 0 = 0
  · exact ⟨_, _, _, wk_xr (q := 0) (by omega) (by omega) hpe (fun K h => wx_returnFrom (by omega) (Nat.le_refl _) hH (fun _ => h) (fun z => absurd rfl z)) (wk_xe (by omega) (by decide)), wk_y0 (by omega) (by omega) (Or.inl ⟨z, rfl, rfl⟩), hr_F_mk VK c3 cPr gK⟩
  · exact ⟨_, _, _, wk_xr (q := 0) (by omega) (by omega) hpe (fun K h => wx_returnFrom (by omega) (Nat.le_refl _) hH (fun _ => h) (fun z => absurd rfl z)) (wk_xe (by omega) (by decide)), wk_y0 (by omega) (by omega) (Or.inr ⟨z, rfl, rfl⟩), hr_F_mk VK c3 cPr gK⟩
theorem hm_b (G : hp_G tk tv N f D B mc) (haf : ∀ t, t < N → af t = nI (f t)) (hms : ∀ m, m < mc → ms m = nI (hc_it f m 0)) (hs : s + 1 < 1000000) (hg : g + 1 < 4000000) (IHa : hr_PA tk tv N f D B xm yr ym af ms m (s + 1) (g + 1)) (IHb : hr_PB tk tv N f D B xm yr ym af ms m (s + 1) (g + 1)) (IHc : hr_PB tk tv N f D B xm yr ym af ms m s (g + 1)) : hr_PB tk tv N f D B xm yr ym af ms (m + 1) s g := by
  intro xd xt yo y1 y2 y3 xv dp ib aH aB hP pT pL pk pv gk gv gh cn cd cD cP lk lv lh yH yPk yPv yPh yM yA wt wa ws wb wx vk vv vh pr gl aP lo pV n p q vb w nh an fl pn A H M C S V hm
  cases n with
  | zero => exact hm_fin G hs hg C S V
  | succ n =>
    have hT := G.2.2.2.2.2.2.2.1
    obtain ⟨t, p', q', vb', w', S', t1, t2, t3, t5, t6, t7, h⟩ := S
    obtain ⟨k, k1, k2⟩ := hp_k hT t1
    rcases h with ⟨b1, b2, b3, b4, b5, b6, b7, b8, b9⟩ | ⟨b1, b2, b4, b5, b6, b7, b8, b9, b10⟩ | ⟨b1, b2, b4, b5, b6, b7⟩ | ⟨b1, b2, b4, b5, b6, b7⟩ | ⟨b4, b5, b6, b7, b8, b9, b10⟩
    · subst b4; subst b5; subst b6; subst b7
      by_cases kb : hs_bin (nI k)
      · exact hm_bin1 G haf hms hs hg IHa IHb C S' t1 t2 t3 t5 t6 t7 b8 V b1 b9 k1 k2 kb hm
      · rw [k2] at b2 b3
        rcases hm_un k (by omega) ⟨b2, b3, kb⟩ with rfl | rfl | rfl | rfl | rfl | rfl | rfl
        · exact hm_set G haf hms hs hg IHa IHb C S' t1 t2 t3 t5 t6 t7 b8 V b1 k2 hm
        · exact hm_gset G haf hms hs hg IHa IHb C S' t1 t2 t3 t5 t6 t7 b8 V b1 k2 hm
        · exact hm_if1 G haf hms hs hg IHa IHb C S' t1 t2 t3 t5 t6 t7 b8 V b1 k2 hm
        · exact hm_seq1 G haf hms hs hg IHa IHb C S' t1 t2 t3 t5 t6 t7 b8 V b1 k2 hm
        · exact hm_print G haf hms hs hg IHa IHb C S' t1 t2 t3 t5 t6 t7 b8 V b1 k2 hm
        · exact hm_call G haf hms hs hg IHa IHb C S' t1 t2 t3 t5 t6 t7 b8 V b1 k2 hm
        · exact hm_ret G haf hms hs hg IHa IHb C S' t1 t2 t3 t5 t6 t7 b8 V b1 k2 hm
    · subst b4; subst b5; subst b6; subst b7
      rw [k2] at b2
      rcases hm_bi k (by omega) b2 with rfl | rfl | rfl | rfl | rfl
      · exact hm_calc6 G haf hms hs hg IHa IHb C S' t1 t2 t3 t5 t6 t7 b8 V b10 b1 b9 k2 hm
      · exact hm_calc7 G haf hms hs hg IHa IHb C S' t1 t2 t3 t5 t6 t7 b8 V b10 b1 b9 k2 hm
      · exact hm_calc8 G haf hms hs hg IHa IHb C S' t1 t2 t3 t5 t6 t7 b8 V b10 b1 b9 k2 hm
      · exact hm_calc9 G haf hms hs hg IHa IHb C S' t1 t2 t3 t5 t6 t7 b8 V b10 b1 b9 k2 hm
      · exact hm_value G haf hms hs hg IHa IHb C S' t1 t2 t3 t5 t6 t7 b8 V b10 b1 b9 k2 hm
    · subst b4; subst b5; subst b6; subst b7
      have g1 := G.1
      have gD := G.2.2.1 t t1
      have C' := C
      obtain ⟨c1, c2, c3, c4, cA, -⟩ := C'
      have a1 := (cA.1 q (Nat.lt_succ_self q)).1
      obtain ⟨bd1, bd2, bd3, bd4, bb, bb1, bb2⟩ := hs_S_bd (fun t ht => (G.2.2.1 t ht).2) n p q vb' w' S'
      exact hr_gy (by omega) (by omega) (fun K h => wy_seq2 (by omega) t1 g1 (by omega) t2 t3 b1 b2 (by omega) h) (IHc C (hs_t_v S' _ _ _) (by rw [pk_us, pk_us, pk_us]; exact V) (by omega))
    · subst b4; subst b5; subst b6; subst b7
      have g1 := G.1
      have gD := G.2.2.1 t t1
      have C' := C
      obtain ⟨c1, c2, c3, c4, cA, -⟩ := C'
      have a1 := (cA.1 q (Nat.lt_succ_self q)).1
      exact hr_gy (by omega) (by omega) (fun K h => wy_if2 (by omega) t1 g1 (by omega) t2 t3 b1 b2 h) (IHc C S' V (by omega))
    · subst b4; subst b5; subst b6; subst b7
      exact hm_end G haf hms hs hg IHa IHb C S' t1 t2 t3 t5 t6 t7 b8 b9 b10 V hm
theorem hm_all (G : hp_G tk tv N f D B mc) (haf : ∀ t, t < N → af t = nI (f t)) (hms : ∀ m, m < mc → ms m = nI (hc_it f m 0)) : ∀ m s g, s + m + 2 < 1000000 → g + m + 2 < 4000000 → hr_PA tk tv N f D B xm yr ym af ms m s g ∧ hr_PB tk tv N f D B xm yr ym af ms m s g := by
  intro m
  induction m with
  | zero =>
    intro s g hs hg
    constructor
    · intro xd yo y1 y2 y3 xv dp ib aH aB hP pT pL pk pv gk gv gh cn cd cD cP lk lv lh yH yPk yPv yPh yM yA wt wa ws wb wx vk vv vh pr gl aP lo pV n p q vb w t nh an fl pn A H M C S T hm
      have lt := hp_lt G T.1
      omega
    · intro xd xt yo y1 y2 y3 xv dp ib aH aB hP pT pL pk pv gk gv gh cn cd cD cP lk lv lh yH yPk yPv yPh yM yA wt wa ws wb wx vk vv vh pr gl aP lo pV n p q vb w nh an fl pn A H M C S V hm
      have hw := hs_S_w n p q vb w S
      have n0 : n = 0 := by omega
      subst n0
      exact hm_fin G (by omega) (by omega) C S V
  | succ m ih =>
    intro s g hs hg
    obtain ⟨i1, i2⟩ := ih (s + 1) (g + 1) (by omega) (by omega)
    obtain ⟨-, i3⟩ := ih s (g + 1) (by omega) (by omega)
    exact ⟨hm_a G (by omega) (by omega) i1 i2, hm_b G haf hms (by omega) (by omega) i1 i2 i3⟩
end
