def zk {α : Type} (g : Nat → α) (z : α) (i : Nat) : Nat → α := fun j => if j < i then z else g j
theorem zk_lt {α : Type} {g : Nat → α} {z : α} {i j : Nat} (h : j < i) : zk g z i j = z := if_pos h
theorem zk_0 {α : Type} {g : Nat → α} {z : α} : zk g z 0 = g := funext fun j => if_neg (by omega)
theorem zk_s {g : Nat → Int32} {i : Nat} : upd (zk g 0 i) i 0 = zk g 0 (i + 1) := by
  funext j
  unfold zk
  by_cases e : j = i
  · subst e; rw [pk_us, if_pos (by omega)]
  · rw [pk_un e]
    by_cases z : j < i
    · rw [if_pos z, if_pos (by omega)]
    · rw [if_neg z, if_neg (by omega)]
theorem zk_sL {g : Nat → Int64} {i : Nat} : vp_updL (zk g 0 i) i 0 = zk g 0 (i + 1) := by
  funext j
  unfold zk
  by_cases e : j = i
  · subst e; rw [pk_uLs, if_pos (by omega)]
  · rw [pk_uLn e]
    by_cases z : j < i
    · rw [if_pos z, if_pos (by omega)]
    · rw [if_neg z, if_neg (by omega)]
section
variable {xn xm xo xpn xf xd xa xh xp xt xy : Int32} {xr xv : Int64} {tk tv af dp ib ms aH aB hP pT pL : Nat → Int32} {pr gl aP lo pV : Nat → Int64} {K : SX → Prop}
theorem wx_reset (h : K (xn, xm, 0, 0, 0, 0, 0, xa, xh, xp, xt, xv, xy, tk, tv, af, dp, ib, ms, pr, zk gl 0 8, aH, aP, aB, lo, hP, pT, pL, pV)) : wpX_resetAnswers K (xn, xm, xo, xr, xpn, xf, xd, xa, xh, xp, xt, xv, xy, tk, tv, af, dp, ib, ms, pr, gl, aH, aP, aB, lo, hP, pT, pL, pV) := by
  have key : ∀ d i, i + d = 8 → wX_resetAnswers_17 K xn xm 0 0 0 xf xd xa xh xp xt xv xy (d + 1) (nI i) tk tv af dp ib ms pr (zk gl 0 i) aH aP aB lo hP pT pL pV := by
    intro d
    induction d with
    | zero =>
      intro i hi
      have e : i = 8 := by omega
      subst e
      exact br_t (by decide) h
    | succ d ih =>
      intro i hi
      exact br_f (nI_ge (b := 8) (by omega) (by decide)) ⟨vp_in_nI (by omega) (by omega), nm_r (show _ = zk gl 0 (i + 1) by rw [nI_clamp (by omega)]; exact zk_sL) (nm_r (nI_1 i) (ih (i + 1) (by omega)))⟩
  have w := key 8 0 rfl
  rw [zk_0] at w
  unfold wpX_resetAnswers
  exact ⟨9, w⟩
end
section
variable {yn yr ym yo yrk yrv ypn yf yd ya yac yw yv y1 y2 y3 : Int32} {tk tv pk pv gk gv gh cn cd cD cP lk lv lh yH yPk yPv yPh yM yA wt wa ws wb wx vk vv vh : Nat → Int32} {K : SY → Prop} {P : Int32 → SY → Prop}
theorem wy_clear (h : K (0, 0, 0, 0, 0, 0, 0, 0, 0, ya, yac, yw, yv, y1, y2, y3, tk, tv, pk, pv, zk gk 0 8, zk gv 0 8, zk gh 0 8, cn, cd, cD, cP, lk, lv, lh, yH, yPk, yPv, yPh, yM, yA, wt, wa, ws, wb, wx, vk, vv, vh)) : wpY_clear K (yn, yr, ym, yo, yrk, yrv, ypn, yf, yd, ya, yac, yw, yv, y1, y2, y3, tk, tv, pk, pv, gk, gv, gh, cn, cd, cD, cP, lk, lv, lh, yH, yPk, yPv, yPh, yM, yA, wt, wa, ws, wb, wx, vk, vv, vh) := by
  have key : ∀ d i, i + d = 8 → wY_clear_37 K 0 0 0 0 0 0 0 yf yd ya yac yw yv y1 y2 y3 (d + 1) (nI i) tk tv pk pv (zk gk 0 i) (zk gv 0 i) (zk gh 0 i) cn cd cD cP lk lv lh yH yPk yPv yPh yM yA wt wa ws wb wx vk vv vh := by
    intro d
    induction d with
    | zero =>
      intro i hi
      have e : i = 8 := by omega
      subst e
      exact br_t (by decide) h
    | succ d ih =>
      intro i hi
      have e1 : (nI i).toNatClampNeg = i := nI_clamp (by omega)
      have i1 : vp_in (nI i) 8 := vp_in_nI (by omega) (by omega)
      exact br_f (nI_ge (b := 8) (by omega) (by decide)) ⟨i1, nm_r (show _ = zk gk 0 (i + 1) by rw [e1]; exact zk_s) ⟨i1, nm_r (show _ = zk gv 0 (i + 1) by rw [e1]; exact zk_s) ⟨i1, nm_r (show _ = zk gh 0 (i + 1) by rw [e1]; exact zk_s) (nm_r (nI_1 i) (ih (i + 1) (by omega)))⟩⟩⟩
  have w := key 8 0 rfl
  rw [zk_0, zk_0, zk_0] at w
  unfold wpY_clear
  exact ⟨9, w⟩
theorem wy_run35 {a fl : Int32} (h : wpY_newAct (fun r u => match u with | (yn, yr, ym, yo, yrk, yrv, ypn, yf, yd, ya, yac, yw, yv, y1, y2, y3, tk, tv, pk, pv, gk, gv, gh, cn, cd, cD, cP, lk, lv, lh, yH, yPk, yPv, yPh, yM, yA, wt, wa, ws, wb, wx, vk, vv, vh) => wpY_pushW (fun u => match u with | (yn, yr, ym, yo, yrk, yrv, ypn, yf, yd, ya, yac, yw, yv, y1, y2, y3, tk, tv, pk, pv, gk, gv, gh, cn, cd, cD, cP, lk, lv, lh, yH, yPk, yPv, yPh, yM, yA, wt, wa, ws, wb, wx, vk, vv, vh) => ∃ n141 : Nat, wY_run_141 P n141 0 0 yn yr ym yo yrk yrv ypn yf yd ya yac yw yv y1 y2 y3 tk tv pk pv gk gv gh cn cd cD cP lk lv lh yH yPk yPv yPh yM yA wt wa ws wb wx vk vv vh) (yn, yr, ym, yo, yrk, yrv, ypn, yf, yd, ya, yac, yw, yv, y1, y2, y3, tk, tv, pk, pv, gk, gv, gh, cn, cd, cD, cP, lk, lv, lh, yH, yPk, yPv, yPh, yM, yA, wt, wa, ws, wb, wx, vk, vv, vh) 0 r) (yn, yr, ym, yo, 0, 0, 0, fl, 0, 0, 0, 0, 0, y1, y2, y3, tk, tv, pk, pv, zk gk 0 8, zk gv 0 8, zk gh 0 8, cn, cd, cD, cP, lk, lv, lh, yH, yPk, yPv, yPh, yM, yA, wt, wa, ws, wb, wx, vk, vv, vh) 1 0 0 a 0) : ∃ n35, wY_run_35 P a fl yn yr ym yo yrk yrv ypn yf yd ya yac yw yv y1 y2 y3 n35 0 tk tv pk pv gk gv gh cn cd cD cP lk lv lh yH yPk yPv yPh yM yA wt wa ws wb wx vk vv vh := by
  have key : ∀ d i, i + d = 8 → wY_run_35 P a fl yn yr ym yo yrk yrv ypn yf yd ya yac yw yv y1 y2 y3 (d + 1) (nI i) tk tv pk pv (zk gk 0 i) (zk gv 0 i) (zk gh 0 i) cn cd cD cP lk lv lh yH yPk yPv yPh yM yA wt wa ws wb wx vk vv vh := by
    intro d
    induction d with
    | zero =>
      intro i hi
      have e : i = 8 := by omega
      subst e
      exact br_t (by decide) h
    | succ d ih =>
      intro i hi
      have e1 : (nI i).toNatClampNeg = i := nI_clamp (by omega)
      have i1 : vp_in (nI i) 8 := vp_in_nI (by omega) (by omega)
      exact br_f (nI_ge (b := 8) (by omega) (by decide)) ⟨i1, nm_r (show _ = zk gk 0 (i + 1) by rw [e1]; exact zk_s) ⟨i1, nm_r (show _ = zk gv 0 (i + 1) by rw [e1]; exact zk_s) ⟨i1, nm_r (show _ = zk gh 0 (i + 1) by rw [e1]; exact zk_s) (nm_r (nI_1 i) (ih (i + 1) (by omega)))⟩⟩⟩
  have w := key 8 0 rfl
  rw [zk_0, zk_0, zk_0] at w
  exact ⟨9, w⟩
end
/-! the relation -/
def hr_Rdy (tk tv : Nat → Int32) (N mc : Nat) (yr ym : Int32) (af ms : Nat → Int32) : Prop :=
  (mc = 0 ∧ yr = 0) ∨ (yr = 1 ∧ ym = nI mc ∧ ∃ f D B, hp_G tk tv N f D B mc ∧ (∀ t, t < N → af t = nI (f t)) ∧ (∀ m, m < mc → ms m = nI (hc_it f m 0)))
def hr_R (u : SX) (v : SY) : Prop := match u, v with
  | (xn, xm, xo, xr, xpn, xf, xd, xa, xh, xp, xt, xv, xy, tk, tv, af, dp, ib, ms, pr, gl, aH, aP, aB, lo, hP, pT, pL, pV), (yn, yr, ym, yo, yrk, yrv, ypn, yf, yd, ya, yac, yw, yv, y1, y2, y3, tk2, tv2, pk, pv, gk, gv, gh, cn, cd, cD, cP, lk, lv, lh, yH, yPk, yPv, yPh, yM, yA, wt, wa, ws, wb, wx, vk, vv, vh) => ∃ N mc pn, xn = nI N ∧ yn = nI N ∧ N ≤ 128 ∧ tk2 = tk ∧ tv2 = tv ∧ hp_T tk tv N ∧ xm = nI mc ∧ mc ≤ 8 ∧ hr_Rdy tk tv N mc yr ym af ms ∧ yo = xo ∧ yf = xf ∧ yd = xd ∧ hv_K xr yrk yrv ∧
    xpn = nI pn ∧ ypn = nI pn ∧ pn ≤ 32 ∧ (∀ i, i < pn → hv_K (pr i) (pk i) (pv i)) ∧ (∀ i, i < 8 → hv_K (gl i) (gk i) (gv i))
section
variable {xn xm xo xpn xf xd xa xh xp xt xy : Int32} {xr xv : Int64} {tk tv af dp ib ms aH aB hP pT pL : Nat → Int32} {pr gl aP lo pV : Nat → Int64} {yn yr ym yo yrk yrv ypn yf yd ya yac yw yv y1 y2 y3 : Int32} {pk pv gk gv gh cn cd cD cP lk lv lh yH yPk yPv yPh yM yA wt wa ws wb wx vk vv vh : Nat → Int32} {N mc pn : Nat}
theorem hr_R_mk (hN : N ≤ 128) (hT : hp_T tk tv N) (hm : mc ≤ 8) (hG : hr_Rdy tk tv N mc yr ym af ms) (hr : hv_K xr yrk yrv) (hpn : pn ≤ 32) (hp : ∀ i, i < pn → hv_K (pr i) (pk i) (pv i)) (hg : ∀ i, i < 8 → hv_K (gl i) (gk i) (gv i)) : hr_R (nI N, nI mc, xo, xr, nI pn, xf, xd, xa, xh, xp, xt, xv, xy, tk, tv, af, dp, ib, ms, pr, gl, aH, aP, aB, lo, hP, pT, pL, pV) (nI N, yr, ym, xo, yrk, yrv, nI pn, xf, xd, ya, yac, yw, yv, y1, y2, y3, tk, tv, pk, pv, gk, gv, gh, cn, cd, cD, cP, lk, lv, lh, yH, yPk, yPv, yPh, yM, yA, wt, wa, ws, wb, wx, vk, vv, vh) := by
  unfold hr_R
  exact ⟨N, mc, pn, rfl, rfl, hN, rfl, rfl, hT, rfl, hm, hG, rfl, rfl, rfl, hr, rfl, rfl, hpn, hp, hg⟩
end
section
variable {xn xm xo xpn xf xd xa xh xp xt xy : Int32} {xr xv : Int64} {tk tv af dp ib ms aH aB hP pT pL : Nat → Int32} {pr gl aP lo pV : Nat → Int64} {yn yr ym yo yrk yrv ypn yf yd ya yac yw yv y1 y2 y3 : Int32} {pk pv gk gv gh cn cd cD cP lk lv lh yH yPk yPv yPh yM yA wt wa ws wb wx vk vv vh : Nat → Int32} {N mc : Nat} {f D : Nat → Nat} {B : Nat → Bool}
/-- a run of a compiled program, from its start to its end -/
theorem hm_run (G : hp_G tk tv N f D B mc) (haf : ∀ t, t < N → af t = nI (f t)) (hms : ∀ m, m < mc → ms m = nI (hc_it f m 0)) (a : Int32) {fl : Nat} (hfl : fl ≤ 255) : ∃ uf rf vf,
    (∀ K : SX → Prop, K uf → wpX_startMethod (fun u => match u with | (xn, xm, xo, xr, xpn, xf, xd, xa, xh, xp, xt, xv, xy, tk, tv, af, dp, ib, ms, pr, gl, aH, aP, aB, lo, hP, pT, pL, pV) => wpX_evaluate K (xn, xm, xo, xr, xpn, xf, xd, xa, xh, xp, xt, xv, xy, tk, tv, af, dp, ib, ms, pr, gl, aH, aP, aB, lo, hP, pT, pL, pV)) (nI N, xm, 0, 0, 0, nI fl, 0, 0, 0, 0, xt, xv, xy, tk, tv, af, dp, ib, ms, pr, zk gl 0 8, aH, aP, aB, lo, hP, pT, pL, pV) 0 (hv_i a)) ∧
    (∀ P : Int32 → SY → Prop, P rf vf → ∃ n35, wY_run_35 P a (nI fl) (nI N) yr ym yo yrk yrv ypn yf yd ya yac yw yv y1 y2 y3 n35 0 tk tv pk pv gk gv gh cn cd cD cP lk lv lh yH yPk yPv yPh yM yA wt wa ws wb wx vk vv vh) ∧ hr_F N xm yr ym tk tv af ms uf rf vf := by
  have mc1 := G.2.2.2.2.2.2.2.2.1
  have g1 := G.1
  obtain ⟨r1, r2⟩ := G.2.2.2.2.1 0 (by omega)
  have lt := hp_lt G r1
  have gD := G.2.2.1 _ r1
  have r1' : 0 < N := r1
  have D0 : hr_D N xm yr ym tk tv af ms 0 0 (nI N, xm, 0, 0, nI 0, nI fl, wk_mx 0 (nI (0 + 1)), nI (0 + 1), nI (0 + 1), nI 0, nI 0, xv, 0, tk, tv, af, dp, ib, ms, pr, zk gl 0 8, upd aH 0 (nI 0), aP, upd aB 0 (nI 0), wk_l4 lo (0 * 4) (hv_i a), upd hP 0 (nI 0), pT, pL, pV) (nI N, yr, ym, yo, 0, 0, nI 0, nI fl, wk_mx 0 (nI (0 + 1)), nI (0 + 1), nI (0 + 1), nI (0 + 1), nI 0, y1, y2, y3, tk, tv, pk, pv, zk gk 0 8, zk gv 0 8, zk gh 0 8, cn, cd, cD, cP, upd (wk_z4 lk (0 * 4)) (0 * 4) 0, upd (wk_z4 lv (0 * 4)) (0 * 4) a, upd (wk_z4 lh (0 * 4)) (0 * 4) 0, upd yH 0 (nI 0), upd yPk 0 0, upd yPv 0 0, upd yPh 0 0, upd yM 0 1, upd yA 0 1, upd wt 0 (nI 0), upd wa 0 (nI 0), upd ws 0 0, upd wb 0 (nI 0), upd wx 0 0, vk, vv, vh) := by
    have E : hs_A (hv_V tk N (0 + 1) (gu (fun _ => 0) 0 0)) 0 0 0 (fun _ => 0) (fun _ => 0) (fun _ => true) aH aP hP yH yPk yPv yPh yM yA := ⟨fun q hq => by omega, fun p q _ hq => by omega, fun h hh => by omega, fun g h _ hh => by omega, fun m hm => by omega⟩
    have L0 : hs_L (hv_V tk N 0 (fun _ => 0)) 0 (fun _ => 0) lo lk lv lh := fun h hh => by omega
    exact (hm_all G haf hms 131100 0 0 (by omega) (by omega)).1 (q := 0) (n := 0) (p := 0) (vb := 0) (w := 0) (t := 0) (nh := 0 + 1) (an := 0 + 1) (pn := 0)
      ⟨by omega, by omega, by omega, by omega, hs_A_meth E, hs_L_met L0 (fun h hh => by omega) (Or.inl ⟨rfl, rfl⟩), fun i hi => by rw [zk_lt hi, zk_lt hi, zk_lt hi]; exact hv_V0, fun i hi => by omega⟩
      ⟨rfl, rfl, rfl, rfl, pk_us⟩ ⟨r1', pk_us, by rw [pk_us, gu_s], pk_us, pk_us, by have := gD.1; exact (show 0 < 8 * 0 + D 0 from by have : 1 ≤ D 0 := gD.1; omega), fun _ => r2⟩ (by have : f 0 ≤ N := lt.2; omega)
  obtain ⟨uf, rf, vf, x, y, z⟩ := D0
  refine ⟨uf, rf, vf, fun K hK => ?_, fun P hP' => ?_, z⟩
  · exact wx_startMeth (m := 0) (na := 0) (p := 0) (nh := 0) (mt := nI 0) (by omega) (by omega) (by omega) (hms 0 (by omega)) (x K hK)
  · exact wy_run35 (wy_newM (an := 0) (na := 0) (by omega) (wy_pushW (n := 0) (by omega) (y P hP')))
end
def i_Rel (k : Nat) (u : SX) (v : SY) : Prop := hr_R u v
theorem i_up {k : Nat} {u : SX} {v : SY} (h : i_Rel k u v) : i_Rel (k + 3) u v := h
