theorem pk_uu {g : Nat → Int32} {i : Nat} {x y : Int32} : upd (upd g i x) i y = upd g i y := by
  funext j
  by_cases e : j = i
  · subst e; rw [pk_us, pk_us]
  · rw [pk_un e, pk_un e, pk_un e]
def wk_z4 (g : Nat → Int32) (i : Nat) : Nat → Int32 := upd (upd (upd (upd g i 0) (i + 1) 0) (i + 2) 0) (i + 3) 0
theorem wk_ar (r m : Nat) : nI (r + 1) + (nI m - 1) = nI (r + m) := by
  rw [nI_succ, ← nI_add r m]; grind
section
variable {yn yr ym yo yrk yrv ypn yf yd ya yac yw yv y1 y2 y3 : Int32} {tk tv pk pv gk gv gh cn cd cD cP lk lv lh yH yPk yPv yPh yM yA wt wa ws wb wx vk vv vh : Nat → Int32} {K : SY → Prop} {N n vb : Nat}
theorem wy_pushV {a b c : Int32} (hv : vb < 512) (h : K (yn, yr, ym, yo, yrk, yrv, ypn, yf, yd, ya, yac, yw, nI (vb + 1), y1, y2, y3, tk, tv, pk, pv, gk, gv, gh, cn, cd, cD, cP, lk, lv, lh, yH, yPk, yPv, yPh, yM, yA, wt, wa, ws, wb, wx, upd vk vb a, upd vv vb b, upd vh vb c)) : wpY_pushV K (yn, yr, ym, yo, yrk, yrv, ypn, yf, yd, ya, yac, yw, nI vb, y1, y2, y3, tk, tv, pk, pv, gk, gv, gh, cn, cd, cD, cP, lk, lv, lh, yH, yPk, yPv, yPh, yM, yA, wt, wa, ws, wb, wx, vk, vv, vh) a b c := by
  have e : (nI vb).toNatClampNeg = vb := nI_clamp (by omega)
  have i : vp_in (nI vb) 512 := vp_in_nI hv (by omega)
  unfold wpY_pushV
  exact br_f (nI_ge (b := 512) hv (by decide)) ⟨i, nm_r (congrArg (fun i => upd vk i a) e) ⟨i, nm_r (congrArg (fun i => upd vv i b) e) ⟨i, nm_r (congrArg (fun i => upd vh i c) e) (nm_r (nI_1 vb) h)⟩⟩⟩
theorem wy_popV (hv : vb < 512) (h : K (yn, yr, ym, yo, yrk, yrv, ypn, yf, yd, ya, yac, yw, nI vb, vk vb, vv vb, vh vb, tk, tv, pk, pv, gk, gv, gh, cn, cd, cD, cP, lk, lv, lh, yH, yPk, yPv, yPh, yM, yA, wt, wa, ws, wb, wx, vk, vv, vh)) : wpY_popV K (yn, yr, ym, yo, yrk, yrv, ypn, yf, yd, ya, yac, yw, nI (vb + 1), y1, y2, y3, tk, tv, pk, pv, gk, gv, gh, cn, cd, cD, cP, lk, lv, lh, yH, yPk, yPv, yPh, yM, yA, wt, wa, ws, wb, wx, vk, vv, vh) := by
  have e : (nI vb).toNatClampNeg = vb := nI_clamp (by omega)
  have i : vp_in (nI vb) 512 := vp_in_nI hv (by omega)
  unfold wpY_popV
  exact br_f (nI_nle (by omega) (by omega)) (nm_r (nI_pred vb) ⟨i, nm_r (congrArg vk e) ⟨i, nm_r (congrArg vv e) ⟨i, nm_r (congrArg vh e) h⟩⟩⟩)
theorem wy_pushW {a b : Int32} (hn : n < 256) (h : K (yn, yr, ym, yo, yrk, yrv, ypn, yf, yd, ya, yac, nI (n + 1), yv, y1, y2, y3, tk, tv, pk, pv, gk, gv, gh, cn, cd, cD, cP, lk, lv, lh, yH, yPk, yPv, yPh, yM, yA, upd wt n a, upd wa n b, upd ws n 0, upd wb n yv, upd wx n 0, vk, vv, vh)) : wpY_pushW K (yn, yr, ym, yo, yrk, yrv, ypn, yf, yd, ya, yac, nI n, yv, y1, y2, y3, tk, tv, pk, pv, gk, gv, gh, cn, cd, cD, cP, lk, lv, lh, yH, yPk, yPv, yPh, yM, yA, wt, wa, ws, wb, wx, vk, vv, vh) a b := by
  have e : (nI n).toNatClampNeg = n := nI_clamp (by omega)
  have i : vp_in (nI n) 256 := vp_in_nI hn (by omega)
  unfold wpY_pushW
  exact br_f (nI_ge (b := 256) hn (by decide)) ⟨i, nm_r (congrArg (fun i => upd wt i a) e) ⟨i, nm_r (congrArg (fun i => upd wa i b) e) ⟨i, nm_r (congrArg (fun i => upd ws i 0) e) ⟨i, nm_r (congrArg (fun i => upd wb i yv) e) ⟨i, nm_r (congrArg (fun i => upd wx i 0) e) (nm_r (nI_1 n) h)⟩⟩⟩⟩⟩
theorem wy_skip_key {post : Int32 → Prop} {f : Nat → Nat} (hT : hp_T tk tv N) (hN : N ≤ 128) (L : hc_Lk (hp_a tk) f 0 N) : ∀ d t r m, N - t ≤ d → r + 3 * d < 2 ^ 30 → t < N → wY_skipExpr_4 post (nI N) yr ym yo yrk yrv ypn yf yd ya yac yw yv y1 y2 y3 tk tv pk pv gk gv gh cn cd cD cP lk lv lh yH yPk yPv yPh yM yA wt wa ws wb wx vk vv vh m (nI r) (nI (f t)) → wY_skipExpr_4 post (nI N) yr ym yo yrk yrv ypn yf yd ya yac yw yv y1 y2 y3 tk tv pk pv gk gv gh cn cd cD cP lk lv lh yH yPk yPv yPh yM yA wt wa ws wb wx vk vv vh (m + (f t - t)) (nI (r + 1)) (nI t) := by
  intro d
  induction d with
  | zero => intro t r m h1 hr h2; omega
  | succ d ih =>
    intro t r m h1 hr h2 h
    have lt := hc_lt L (Nat.zero_le _) h2
    obtain ⟨k, k1, k2, -⟩ := hT t h2
    obtain ⟨Lq, Le⟩ := L t (Nat.zero_le _) h2
    have ea : hp_a tk t = hc_ar (nI k) := by unfold hp_a; rw [k2]
    have a33 : hp_a tk t ≤ 3 := hc_ar3 _
    have inner : ∀ j, j ≤ hp_a tk t → wY_skipExpr_4 post (nI N) yr ym yo yrk yrv ypn yf yd ya yac yw yv y1 y2 y3 tk tv pk pv gk gv gh cn cd cD cP lk lv lh yH yPk yPv yPh yM yA wt wa ws wb wx vk vv vh (m + (f t - hc_it f (hp_a tk t - j) (t + 1))) (nI (r + j)) (nI (hc_it f (hp_a tk t - j) (t + 1))) := by
      intro j
      induction j with
      | zero =>
        intro _
        rw [Nat.sub_zero, ← Le, Nat.sub_self]
        exact h
      | succ j ij =>
        intro hj
        have q := ij (by omega)
        have ej : hp_a tk t - j = hp_a tk t - (j + 1) + 1 := by omega
        have c1 := Lq (hp_a tk t - (j + 1)) (by omega)
        have c2 := hc_ch L (Nat.zero_le _) h2 (hp_a tk t - (j + 1)) (by omega)
        have c3 := hc_Ch_lt L (Nat.zero_le _) h2 ⟨hp_a tk t - (j + 1), by omega, rfl⟩
        rw [ej, hc_it_s] at q
        have w := ih (hc_it f (hp_a tk t - (j + 1)) (t + 1)) (r + j) _ (by omega) (by omega) c1 q
        have ef : m + (f t - f (hc_it f (hp_a tk t - (j + 1)) (t + 1))) + (f (hc_it f (hp_a tk t - (j + 1)) (t + 1)) - hc_it f (hp_a tk t - (j + 1)) (t + 1)) = m + (f t - hc_it f (hp_a tk t - (j + 1)) (t + 1)) := by omega
        rw [ef] at w
        exact w
    have w := inner (hp_a tk t) (Nat.le_refl _)
    rw [Nat.sub_self] at w
    have w' : wY_skipExpr_4 post (nI N) yr ym yo yrk yrv ypn yf yd ya yac yw yv y1 y2 y3 tk tv pk pv gk gv gh cn cd cD cP lk lv lh yH yPk yPv yPh yM yA wt wa ws wb wx vk vv vh (m + (f t - (t + 1))) (nI (r + hp_a tk t)) (nI (t + 1)) := w
    have en : m + (f t - t) = m + (f t - (t + 1)) + 1 := by omega
    have et : tk (nI t).toNatClampNeg = nI k := by rw [nI_clamp (by omega)]; exact k2
    have a3 := hc_ar3 (nI k)
    rw [en]
    refine br_f (nI_nle (by omega) (by omega)) (br_f (nI_pos (by omega)) (br_f (nI_ge h2 (by omega)) ⟨vp_in_nI (by omega) (by omega), ?_⟩))
    rw [et]
    refine wy_arity k1 (nm_r (wk_ar r _) (nm_r (nI_1 t) ?_))
    rw [← ea]; exact w'
theorem wy_skip {post : Int32 → Prop} {f : Nat → Nat} (hT : hp_T tk tv N) (hN : N ≤ 128) (L : hc_Lk (hp_a tk) f 0 N) {t : Nat} (ht : t < N) (h : post (nI (f t))) : wpY_skipExpr post (nI N, yr, ym, yo, yrk, yrv, ypn, yf, yd, ya, yac, yw, yv, y1, y2, y3, tk, tv, pk, pv, gk, gv, gh, cn, cd, cD, cP, lk, lv, lh, yH, yPk, yPv, yPh, yM, yA, wt, wa, ws, wb, wx, vk, vv, vh) (nI t) := by
  unfold wpY_skipExpr
  exact ⟨_, wy_skip_key (post := post) hT hN L _ t 0 1 (Nat.le_refl _) (by omega) ht (br_t (by decide) h)⟩
theorem wy_mst {post : Int32 → Prop} {f : Nat → Nat} (hT : hp_T tk tv N) (hN : N ≤ 128) (L : hc_Lk (hp_a tk) f 0 N) {m : Nat} (hm : m < 8) (hr : ∀ k, k < m → hc_it f k 0 < N) (h : post (nI (hc_it f m 0))) : wpY_methodStart post (nI N, yr, ym, yo, yrk, yrv, ypn, yf, yd, ya, yac, yw, yv, y1, y2, y3, tk, tv, pk, pv, gk, gv, gh, cn, cd, cD, cP, lk, lv, lh, yH, yPk, yPv, yPh, yM, yA, wt, wa, ws, wb, wx, vk, vv, vh) (nI m) := by
  have key : ∀ d k, k + d = m → wY_methodStart_4 post (nI m) (nI N) yr ym yo yrk yrv ypn yf yd ya yac yw yv y1 y2 y3 tk tv pk pv gk gv gh cn cd cD cP lk lv lh yH yPk yPv yPh yM yA wt wa ws wb wx vk vv vh (d + 1) (nI (hc_it f k 0)) (nI k) := by
    intro d
    induction d with
    | zero =>
      intro k hk
      have e : k = m := by omega
      subst e
      exact br_t (nI_le (Nat.le_refl _) (by omega)) h
    | succ d ih =>
      intro k hk
      refine br_f (nI_ge (by omega) (by omega)) (br_f (nI_ge (b := 8) (by omega) (by decide)) (wy_skip hT hN L (hr k (by omega)) (nm_r (nI_1 k) ?_)))
      have w := ih (k + 1) (by omega)
      rw [hc_it_s] at w
      exact w
  unfold wpY_methodStart
  exact ⟨_, key m 0 (by omega)⟩
end
section
variable {yn yr ym yo yrk yrv ypn yf yd ya yac yw yv y1 y2 y3 : Int32} {tk tv pk pv gk gv gh cn cd cD cP lk lv lh yH yPk yPv yPh yM yA wt wa ws wb wx vk vv vh : Nat → Int32} {K : Int32 → SY → Prop} {n vb : Nat}
theorem wk_194 {an na : Nat} (han : an < 256) (h : K (nI an) (yn, yr, ym, yo, yrk, yrv, ypn, yf, wk_mx yd (nI (na + 1)), ya, nI (na + 1), yw, yv, y1, y2, y3, tk, tv, pk, pv, gk, gv, gh, cn, cd, cD, cP, lk, lv, lh, yH, yPk, yPv, yPh, yM, upd yA an 1, wt, wa, ws, wb, wx, vk, vv, vh)) : wY_newAct_194 K (nI an) yn yr ym yo yrk yrv ypn yf yd ya (nI na) yw yv y1 y2 y3 tk tv pk pv gk gv gh cn cd cD cP lk lv lh yH yPk yPv yPh yM yA wt wa ws wb wx vk vv vh := by
  have e : (nI an).toNatClampNeg = an := nI_clamp (by omega)
  have i : vp_in (nI an) 256 := vp_in_nI han (by omega)
  refine And.intro i (nm_r (show _ = upd yA an 1 by rw [e, wk_b1]) (nm_r (nI_1 na) ?_))
  unfold wk_mx at h
  by_cases z : nI (na + 1) ≤ yd
  · rw [if_pos z] at h; exact br_t z h
  · rw [if_neg z] at h; exact br_f z h
theorem wk_54 {an na : Nat} {x1 k v hh : Int32} (han : an < 256)
    (h0 : x1 = 0 → K (nI an) (yn, yr, ym, yo, yrk, yrv, ypn, yf, wk_mx yd (nI (na + 1)), ya, nI (na + 1), yw, yv, y1, y2, y3, tk, tv, pk, pv, gk, gv, gh, cn, cd, cD, cP, wk_z4 lk (an * 4), wk_z4 lv (an * 4), wk_z4 lh (an * 4), yH, upd yPk an k, upd yPv an v, upd yPh an hh, yM, upd yA an 1, wt, wa, ws, wb, wx, vk, vv, vh))
    (h1 : x1 ≠ 0 → K (nI an) (yn, yr, ym, yo, yrk, yrv, ypn, yf, wk_mx yd (nI (na + 1)), ya, nI (na + 1), yw, yv, y1, y2, y3, tk, tv, pk, pv, gk, gv, gh, cn, cd, cD, cP, upd (wk_z4 lk (an * 4)) (an * 4) k, upd (wk_z4 lv (an * 4)) (an * 4) v, upd (wk_z4 lh (an * 4)) (an * 4) hh, yH, upd yPk an 0, upd yPv an 0, upd yPh an 0, yM, upd yA an 1, wt, wa, ws, wb, wx, vk, vv, vh)) :
    wY_newAct_54 K x1 k v hh (nI an) yn yr ym yo yrk yrv ypn yf yd ya (nI na) yw yv y1 y2 y3 5 0 tk tv pk pv gk gv gh cn cd cD cP lk lv lh yH yPk yPv yPh yM yA wt wa ws wb wx vk vv vh := by
  have e : (nI an).toNatClampNeg = an := nI_clamp (by omega)
  have i : vp_in (nI an) 256 := vp_in_nI han (by omega)
  have m4 : nI an * 4 = nI (an * 4) := wk_m4 an
  have e4 : (nI (an * 4)).toNatClampNeg = an * 4 := nI_clamp (by omega)
  have i4 : vp_in (nI (an * 4)) 1024 := vp_in_nI (by omega) (by omega)
  have st : ∀ j, j < 4 → vp_in (nI an * 4 + nI j) 1024 ∧ (nI an * 4 + nI j).toNatClampNeg = an * 4 + j := fun j hj => by
    rw [wk_ix]; exact ⟨vp_in_nI (by omega) (by omega), nI_clamp (by omega)⟩
  obtain ⟨p0, c0⟩ := st 0 (by omega)
  obtain ⟨p1, c1⟩ := st 1 (by omega)
  obtain ⟨p2, c2⟩ := st 2 (by omega)
  obtain ⟨p3, c3⟩ := st 3 (by omega)
  unfold wk_z4 at h0 h1
  refine br_f (by decide) ⟨p0, nm_r (congrArg (fun i => upd lk i 0) c0) ⟨p0, nm_r (congrArg (fun i => upd lv i 0) c0) ⟨p0, nm_r (congrArg (fun i => upd lh i 0) c0) (nm_r (show (0 : Int32) + 1 = 1 by decide) ?_)⟩⟩⟩
  refine br_f (by decide) ⟨p1, nm_r (congrArg (fun i => upd (upd lk (an * 4 + 0) 0) i 0) c1) ⟨p1, nm_r (congrArg (fun i => upd (upd lv (an * 4 + 0) 0) i 0) c1) ⟨p1, nm_r (congrArg (fun i => upd (upd lh (an * 4 + 0) 0) i 0) c1) (nm_r (show (1 : Int32) + 1 = 2 by decide) ?_)⟩⟩⟩
  refine br_f (by decide) ⟨p2, nm_r (congrArg (fun i => upd (upd (upd lk (an * 4 + 0) 0) (an * 4 + 1) 0) i 0) c2) ⟨p2, nm_r (congrArg (fun i => upd (upd (upd lv (an * 4 + 0) 0) (an * 4 + 1) 0) i 0) c2) ⟨p2, nm_r (congrArg (fun i => upd (upd (upd lh (an * 4 + 0) 0) (an * 4 + 1) 0) i 0) c2) (nm_r (show (2 : Int32) + 1 = 3 by decide) ?_)⟩⟩⟩
  refine br_f (by decide) ⟨p3, nm_r (congrArg (fun i => upd (upd (upd (upd lk (an * 4 + 0) 0) (an * 4 + 1) 0) (an * 4 + 2) 0) i 0) c3) ⟨p3, nm_r (congrArg (fun i => upd (upd (upd (upd lv (an * 4 + 0) 0) (an * 4 + 1) 0) (an * 4 + 2) 0) i 0) c3) ⟨p3, nm_r (congrArg (fun i => upd (upd (upd (upd lh (an * 4 + 0) 0) (an * 4 + 1) 0) (an * 4 + 2) 0) i 0) c3) (nm_r (show (3 : Int32) + 1 = 4 by decide) ?_)⟩⟩⟩
  refine br_t (by decide) ⟨i, nm_r (congrArg (fun i => upd yPk i 0) e) ⟨i, nm_r (congrArg (fun i => upd yPv i 0) e) ⟨i, nm_r (congrArg (fun i => upd yPh i 0) e) ?_⟩⟩⟩
  by_cases z : x1 = 0
  · exact br_t z ⟨i, nm_r (show _ = upd yPk an k by rw [e, pk_uu]) ⟨i, nm_r (show _ = upd yPv an v by rw [e, pk_uu]) ⟨i, nm_r (show _ = upd yPh an hh by rw [e, pk_uu]) (wk_194 han (h0 z))⟩⟩⟩
  · refine br_f z ⟨by rw [m4]; exact i4, nm_r (congrArg (fun i => upd (upd (upd (upd (upd lk (an * 4 + 0) 0) (an * 4 + 1) 0) (an * 4 + 2) 0) (an * 4 + 3) 0) i k) (show (nI an * 4).toNatClampNeg = an * 4 by rw [m4]; exact e4)) ⟨by rw [m4]; exact i4, nm_r (congrArg (fun i => upd (upd (upd (upd (upd lv (an * 4 + 0) 0) (an * 4 + 1) 0) (an * 4 + 2) 0) (an * 4 + 3) 0) i v) (show (nI an * 4).toNatClampNeg = an * 4 by rw [m4]; exact e4)) ⟨by rw [m4]; exact i4, nm_r (congrArg (fun i => upd (upd (upd (upd (upd lh (an * 4 + 0) 0) (an * 4 + 1) 0) (an * 4 + 2) 0) (an * 4 + 3) 0) i hh) (show (nI an * 4).toNatClampNeg = an * 4 by rw [m4]; exact e4)) (wk_194 han (h1 z))⟩⟩⟩
theorem wy_newM {an na : Nat} {k v hh : Int32} (han : an < 256)
    (h : K (nI an) (yn, yr, ym, yo, yrk, yrv, ypn, yf, wk_mx yd (nI (na + 1)), nI (an + 1), nI (na + 1), yw, yv, y1, y2, y3, tk, tv, pk, pv, gk, gv, gh, cn, cd, cD, cP, upd (wk_z4 lk (an * 4)) (an * 4) k, upd (wk_z4 lv (an * 4)) (an * 4) v, upd (wk_z4 lh (an * 4)) (an * 4) hh, upd yH an (nI an), upd yPk an 0, upd yPv an 0, upd yPh an 0, upd yM an 1, upd yA an 1, wt, wa, ws, wb, wx, vk, vv, vh)) :
    wpY_newAct K (yn, yr, ym, yo, yrk, yrv, ypn, yf, yd, nI an, nI na, yw, yv, y1, y2, y3, tk, tv, pk, pv, gk, gv, gh, cn, cd, cD, cP, lk, lv, lh, yH, yPk, yPv, yPh, yM, yA, wt, wa, ws, wb, wx, vk, vv, vh) 1 0 k v hh := by
  have e : (nI an).toNatClampNeg = an := nI_clamp (by omega)
  have i : vp_in (nI an) 256 := vp_in_nI han (by omega)
  unfold wpY_newAct
  exact nm_r (nI_1 an) ⟨i, nm_r (show _ = upd yM an 1 by rw [e, wk_b1]) (br_f (by decide) ⟨i, nm_r (congrArg (fun i => upd yH i (nI an)) e) ⟨5, wk_54 han (fun z => absurd z (by decide)) (fun _ => h)⟩⟩)⟩
theorem wy_newB {an na h0 : Nat} {k v hh x9 : Int32} (han : an < 256) (hh0 : h0 < an) (hx9 : x9 = nI h0)
    (h : K (nI an) (yn, yr, ym, yo, yrk, yrv, ypn, yf, wk_mx yd (nI (na + 1)), nI (an + 1), nI (na + 1), yw, yv, y1, y2, y3, tk, tv, pk, pv, gk, gv, gh, cn, cd, cD, cP, wk_z4 lk (an * 4), wk_z4 lv (an * 4), wk_z4 lh (an * 4), upd yH an (nI h0), upd yPk an k, upd yPv an v, upd yPh an hh, upd yM an 0, upd yA an 1, wt, wa, ws, wb, wx, vk, vv, vh)) :
    wpY_newAct K (yn, yr, ym, yo, yrk, yrv, ypn, yf, yd, nI an, nI na, yw, yv, y1, y2, y3, tk, tv, pk, pv, gk, gv, gh, cn, cd, cD, cP, lk, lv, lh, yH, yPk, yPv, yPh, yM, yA, wt, wa, ws, wb, wx, vk, vv, vh) 0 x9 k v hh := by
  subst hx9
  have e : (nI an).toNatClampNeg = an := nI_clamp (by omega)
  have i : vp_in (nI an) 256 := vp_in_nI han (by omega)
  unfold wpY_newAct
  exact nm_r (nI_1 an) ⟨i, nm_r (show _ = upd yM an 0 by rw [e, wk_b0]) (br_t rfl (br_f (nI_pos (by omega)) (br_t (nI_lt hh0 (by omega)) ⟨i, nm_r (congrArg (fun i => upd yH i (nI h0)) e) ⟨5, wk_54 han (fun _ => h) (fun z => absurd rfl z)⟩⟩)))⟩
end
