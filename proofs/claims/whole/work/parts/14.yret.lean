section
variable {yn yr ym yo yrk yrv ypn yf yd ya yac yw yv y1 y2 y3 : Int32} {tk tv pk pv gk gv gh cn cd cD cP lk lv lh yH yPk yPv yPh yM yA wt wa ws wb wx vk vv vh : Nat → Int32} {K : Int32 → SY → Prop} {N n vb t ac : Nat}
/-! the return of Y -/
theorem wy_165 {rk rv rh : Int32} (h : K 1 (yn, yr, ym, yo, rk, rv, ypn, yf, yd, ya, yac, nI 0, yv, y1, y2, y3, tk, tv, pk, pv, gk, gv, gh, cn, cd, cD, cP, lk, lv, lh, yH, yPk, yPv, yPh, yM, yA, wt, wa, ws, wb, wx, vk, vv, vh)) : wY_doRet_165 K rk rv rh yn yr ym yo yrk yrv ypn yf yd ya yac (nI 0) yv y1 y2 y3 tk tv pk pv gk gv gh cn cd cD cP lk lv lh yH yPk yPv yPh yM yA wt wa ws wb wx vk vv vh := br_t rfl h
theorem wy_165' {rk rv rh : Int32} {b vb' : Nat} (hb : b < 255) (hv : vb' < 512) (hwb : wb b = nI vb') (h : K 0 (yn, yr, ym, yo, yrk, yrv, ypn, yf, yd, ya, yac, nI b, nI (vb' + 1), y1, y2, y3, tk, tv, pk, pv, gk, gv, gh, cn, cd, cD, cP, lk, lv, lh, yH, yPk, yPv, yPh, yM, yA, wt, wa, ws, wb, wx, upd vk vb' rk, upd vv vb' rv, upd vh vb' rh)) : wY_doRet_165 K rk rv rh yn yr ym yo yrk yrv ypn yf yd ya yac (nI (b + 1)) yv y1 y2 y3 tk tv pk pv gk gv gh cn cd cD cP lk lv lh yH yPk yPv yPh yM yA wt wa ws wb wx vk vv vh := by
  have e : nI (b + 1) - 1 = nI b := nI_pred b
  refine br_f (nI_ne0 (by omega) (by omega)) ⟨by rw [e]; exact vp_in_nI (by omega) (by omega), nm_r (show _ = nI vb' by rw [e, nI_clamp (by omega), hwb]) (wy_pushV hv (nm_r e h))⟩
/-- entries are taken off down to place b -/
theorem wy_83 {rk rv rh : Int32} {hh b : Nat} (hN : N ≤ 128) (hb : b = 0 ∨ ∃ b' t, b = b' + 1 ∧ t < N ∧ wt b' = nI t ∧ tk t = 15 ∧ ws b' = 2 ∧ wx b' = nI hh) (h : wY_doRet_165 K rk rv rh yn yr ym yo yrk yrv ypn yf yd ya yac (nI b) yv y1 y2 y3 tk tv pk pv gk gv gh cn cd cD cP lk lv lh yH yPk yPv yPh yM yA wt wa ws wb wx vk vv vh) : ∀ d c, (∀ j, b ≤ j → j < b + d → hs_no tk N wt ws wx hh j) → c + (b + d) < 256 → wY_doRet_83 K rk rv rh (nI hh) yn yr ym yo yrk yrv ypn yf yd ya yac yv y1 y2 y3 tk tv pk pv gk gv gh cn cd cD cP lk lv lh yH yPk yPv yPh yM yA wt wa ws wb wx vk vv vh (d + 1) (nI c) (nI (b + d)) := by
  intro d
  induction d with
  | zero =>
    intro c _ hc
    refine br_f (nI_ge (b := 256) (by omega) (by decide)) ?_
    rcases hb with z | ⟨b', t, rfl, ht, w1, w2, w3, w4⟩
    · subst z; exact br_t (by decide) h
    · have e : nI (b' + 1) - 1 = nI b' := nI_pred b'
      have e1 : (nI b').toNatClampNeg = b' := nI_clamp (by omega)
      have i : vp_in (nI b') 256 := vp_in_nI (by omega) (by omega)
      exact br_f (nI_nle (by omega) (by omega)) (nm_r e ⟨i, by rw [e1, w1]; exact vp_in_nI (by omega) (by omega), br_t (by rw [e1, w1, nI_clamp (by omega)]; exact w2) ⟨i, br_t (by rw [e1]; exact w3) ⟨i, br_t (by rw [e1]; exact w4) h⟩⟩⟩)
  | succ d ih =>
    intro c hno hc
    have e : nI (b + d + 1) - 1 = nI (b + d) := nI_pred _
    have e1 : (nI (b + d)).toNatClampNeg = b + d := nI_clamp (by omega)
    have i : vp_in (nI (b + d)) 256 := vp_in_nI (by omega) (by omega)
    have Q : wY_doRet_149 K (wY_doRet_83 K rk rv rh (nI hh) yn yr ym yo yrk yrv ypn yf yd ya yac yv y1 y2 y3 tk tv pk pv gk gv gh cn cd cD cP lk lv lh yH yPk yPv yPh yM yA wt wa ws wb wx vk vv vh (d + 1)) rk rv rh (nI hh) (nI c) yn yr ym yo yrk yrv ypn yf yd ya yac (nI (b + d + 1)) yv y1 y2 y3 tk tv pk pv gk gv gh cn cd cD cP lk lv lh yH yPk yPv yPh yM yA wt wa ws wb wx vk vv vh := nm_r e (nm_r (nI_1 c) (ih (c + 1) (fun j h1 h2 => hno j h1 (by omega)) (by omega)))
    obtain ⟨t, ht, w1, w2⟩ := hno (b + d) (by omega) (by omega)
    refine br_f (nI_ge (b := 256) (by omega) (by decide)) (br_f (nI_nle (by omega) (by omega)) (nm_r e ⟨i, by rw [e1, w1]; exact vp_in_nI (by omega) (by omega), ?_⟩))
    have et : tk (wt (nI (b + d)).toNatClampNeg).toNatClampNeg = tk t := by rw [e1, w1, nI_clamp (by omega)]
    by_cases z1 : tk t = 15
    · refine br_t (et.trans z1) ⟨i, ?_⟩
      by_cases z2 : ws (b + d) = 2
      · refine br_t (by rw [e1]; exact z2) ⟨i, ?_⟩
        exact br_f (by rw [e1]; exact fun z3 => w2 ⟨z1, z2, z3⟩) Q
      · exact br_f (by rw [e1]; exact z2) Q
    · exact br_f (by rw [et]; exact z1) Q
/-- the activations from place p on end -/
theorem wy_37 {rk rv rh : Int32} {na an p : Nat} {A : Nat → Nat} {z0 : Int32} (han : an ≤ 256) (hna : na ≤ 16) (hp : p < na) (hA : ∀ i j, i < j → j < na → A i < A j) (hAa : ∀ q, q < na → A q < an ∧ yA (A q) = 1) (hAx : ∀ m, m < an → yA m = 0 ∨ ∃ q, q < na ∧ A q = m)
    (h : ∀ yA' : Nat → Int32, (∀ m, A p ≤ m → m < an → yA' m = 0) → (∀ m, (m < A p ∨ an ≤ m) → yA' m = yA m) → ∃ n83, wY_doRet_83 K rk rv rh z0 yn yr ym yo yrk yrv ypn yf yd (nI an) (nI p) yv y1 y2 y3 tk tv pk pv gk gv gh cn cd cD cP lk lv lh yH yPk yPv yPh yM yA' wt wa ws wb wx vk vv vh n83 0 yw) :
    ∀ d i r yA', i + d = an → A p ≤ i → p ≤ r → r ≤ na → (∀ q, q < r → A q < i) → (∀ q, r ≤ q → q < na → i ≤ A q) → (∀ m, A p ≤ m → m < i → yA' m = 0) → (∀ m, (m < A p ∨ i ≤ m) → yA' m = yA m) →
    wY_doRet_37 K rk rv rh z0 yn yr ym yo yrk yrv ypn yf yd (nI an) yw yv y1 y2 y3 (d + 1) (nI i) (nI (p + (na - r))) tk tv pk pv gk gv gh cn cd cD cP lk lv lh yH yPk yPv yPh yM yA' wt wa ws wb wx vk vv vh := by
  intro d
  induction d with
  | zero =>
    intro i r yA' hi hpi hpr hrn h1 h2 h3 h4
    have ei : i = an := by omega
    subst ei
    have er : r = na := by
      rcases Nat.lt_or_ge r na with z | z
      · have := h2 r (Nat.le_refl _) z
        have := (hAa r z).1
        omega
      · omega
    subst er
    refine br_t (nI_le (Nat.le_refl _) (by omega)) ?_
    rw [Nat.sub_self, Nat.add_zero]
    exact h yA' h3 h4
  | succ d ih =>
    intro i r yA' hi hpi hpr hrn h1 h2 h3 h4
    have e : (nI i).toNatClampNeg = i := nI_clamp (by omega)
    have iv : vp_in (nI i) 256 := vp_in_nI (by omega) (by omega)
    have y := h4 i (Or.inr (Nat.le_refl _))
    refine br_f (nI_ge (by omega) (by omega)) ⟨iv, ?_⟩
    by_cases z : yA i = 0
    · refine br_t (by rw [e, y]; exact z) (nm_r (nI_1 i) (ih (i + 1) r yA' (by omega) (by omega) hpr hrn (fun q hq => by have := h1 q hq; omega) (fun q hq1 hq2 => ?_) (fun m m1 m2 => ?_) (fun m hm => h4 m (by omega))))
      · have a1 := h2 q hq1 hq2
        have a2 := (hAa q hq2).2
        by_cases ee : A q = i
        · rw [ee, z] at a2; exact absurd a2 (by decide)
        · omega
      · by_cases ee : m = i
        · rw [ee, y]; exact z
        · exact h3 m m1 (by omega)
    · obtain ⟨q, q1, q2⟩ := (hAx i (by omega)).resolve_left z
      have qr : q = r := by
        rcases Nat.lt_trichotomy q r with x | x | x
        · have := h1 q x; omega
        · exact x
        · have a1 := hA r q x q1
          have a2 := h2 r (Nat.le_refl _) (by omega)
          omega
      subst qr
      have en : nI (p + (na - q)) - 1 = nI (p + (na - (q + 1))) := by
        rw [show p + (na - q) = p + (na - (q + 1)) + 1 by omega]; exact nI_pred _
      refine br_f (by rw [e, y]; exact z) ⟨iv, nm_r (show _ = upd yA' i 0 by rw [e, wk_b0]) (nm_r en (nm_r (nI_1 i) (ih (i + 1) (q + 1) (upd yA' i 0) (by omega) (by omega) (by omega) (by omega) (fun q' hq' => ?_) (fun q' hq1 hq2 => ?_) (fun m m1 m2 => ?_) (fun m hm => ?_))))⟩
      · by_cases ee : q' = q
        · rw [ee]; omega
        · have := h1 q' (by omega); omega
      · have := hA q q' (by omega) hq2; omega
      · by_cases ee : m = i
        · rw [ee, pk_us]
        · rw [pk_un ee]; exact h3 m m1 (by omega)
      · rw [pk_un (by omega)]; exact h4 m (by omega)
/-- all that are active from lo on, ended -/
def hy_c (lo hi : Nat) (g : Nat → Int32) : Nat → Int32 := fun m => if lo ≤ m ∧ m < hi then 0 else g m
/-- doRet to a home that is active at place p; entries down to b -/
theorem wy_ret1 {rk rv rh : Int32} {na an p hh b : Nat} {A : Nat → Nat} (hac : ac < 256) (hhh : (yM ac = 0 ∧ yH ac = nI hh) ∨ (yM ac ≠ 0 ∧ hh = ac)) (han : an ≤ 256) (hna : na ≤ 16) (hp : p < na) (hAp : A p = hh) (hA : ∀ i j, i < j → j < na → A i < A j) (hAa : ∀ q, q < na → A q < an ∧ yA (A q) = 1) (hAx : ∀ m, m < an → yA m = 0 ∨ ∃ q, q < na ∧ A q = m)
    (hN : N ≤ 128) (hn : n ≤ 200) (hbn : b ≤ n) (hb : b = 0 ∨ ∃ b' t, b = b' + 1 ∧ t < N ∧ wt b' = nI t ∧ tk t = 15 ∧ ws b' = 2 ∧ wx b' = nI hh) (hno : ∀ j, b ≤ j → j < n → hs_no tk N wt ws wx hh j)
    (h : wY_doRet_165 K rk rv rh yn yr ym yo yrk yrv ypn yf yd (nI an) (nI p) (nI b) yv y1 y2 y3 tk tv pk pv gk gv gh cn cd cD cP lk lv lh yH yPk yPv yPh yM (hy_c hh an yA) wt wa ws wb wx vk vv vh) : wpY_doRet K (yn, yr, ym, yo, yrk, yrv, ypn, yf, yd, nI an, nI na, nI n, yv, y1, y2, y3, tk, tv, pk, pv, gk, gv, gh, cn, cd, cD, cP, lk, lv, lh, yH, yPk, yPv, yPh, yM, yA, wt, wa, ws, wb, wx, vk, vv, vh) (nI ac) rk rv rh := by
  have e3 : (nI ac).toNatClampNeg = ac := nI_clamp (by omega)
  have i3 : vp_in (nI ac) 256 := vp_in_nI hac (by omega)
  have a0 := hAa p hp
  have C : wY_doRet_19 K rk rv rh (nI hh) yn yr ym yo yrk yrv ypn yf yd (nI an) (nI na) (nI n) yv y1 y2 y3 tk tv pk pv gk gv gh cn cd cD cP lk lv lh yH yPk yPv yPh yM yA wt wa ws wb wx vk vv vh := by
    refine And.intro (vp_in_nI (by omega) (by omega)) (br_f (by rw [nI_clamp (by omega), ← hAp, a0.2]; decide) ⟨an - hh + 1, ?_⟩)
    have w : wY_doRet_37 K rk rv rh (nI hh) yn yr ym yo yrk yrv ypn yf yd (nI an) (nI n) yv y1 y2 y3 (an - hh + 1) (nI hh) (nI (p + (na - p))) tk tv pk pv gk gv gh cn cd cD cP lk lv lh yH yPk yPv yPh yM yA wt wa ws wb wx vk vv vh := wy_37 han hna hp hA hAa hAx (fun yA' f0 f1 => ⟨n - b + 1, by
      have e9 : yA' = hy_c hh an yA := by
        funext m
        unfold hy_c
        by_cases z : hh ≤ m ∧ m < an
        · rw [if_pos z]; exact f0 m (by omega) z.2
        · rw [if_neg z]; exact f1 m (by omega)
      subst e9
      have w2 := wy_83 (K := K) hN hb h (n - b) 0 (fun j j1 j2 => hno j j1 (by omega)) (by omega)
      rw [show b + (n - b) = n by omega] at w2
      exact w2⟩) (an - hh) hh p yA (by omega) (by omega) (Nat.le_refl _) (by omega) (fun q hq => by rw [← hAp]; exact hA q p hq hp) (fun q hq1 hq2 => by
        rcases Nat.lt_or_ge p q with x | x
        · have := hA p q x hq2; omega
        · have ex : q = p := by omega
          rw [ex]; omega) (fun m m1 m2 => by omega) (fun _ _ => rfl)
    rw [show p + (na - p) = na by omega] at w
    exact w
  unfold wpY_doRet
  rcases hhh with ⟨z1, z2⟩ | ⟨z1, z2⟩
  · exact ⟨i3, br_t (by rw [e3]; exact z1) ⟨i3, by rw [e3, z2]; exact C⟩⟩
  · exact ⟨i3, br_f (by rw [e3]; exact z1) (by rw [← z2]; exact C)⟩
/-- doRet to a home that has ended -/
theorem wy_ret0 {rk rv rh : Int32} {hh : Nat} (hac : ac < 256) (hhh : (yM ac = 0 ∧ yH ac = nI hh) ∨ (yM ac ≠ 0 ∧ hh = ac)) (hh2 : hh < 256) (hz : yA hh = 0) (h : K 2 (yn, yr, ym, yo, yrk, yrv, ypn, yf, yd, ya, yac, yw, yv, y1, y2, y3, tk, tv, pk, pv, gk, gv, gh, cn, cd, cD, cP, lk, lv, lh, yH, yPk, yPv, yPh, yM, yA, wt, wa, ws, wb, wx, vk, vv, vh)) : wpY_doRet K (yn, yr, ym, yo, yrk, yrv, ypn, yf, yd, ya, yac, yw, yv, y1, y2, y3, tk, tv, pk, pv, gk, gv, gh, cn, cd, cD, cP, lk, lv, lh, yH, yPk, yPv, yPh, yM, yA, wt, wa, ws, wb, wx, vk, vv, vh) (nI ac) rk rv rh := by
  have e3 : (nI ac).toNatClampNeg = ac := nI_clamp (by omega)
  have i3 : vp_in (nI ac) 256 := vp_in_nI hac (by omega)
  have C : wY_doRet_19 K rk rv rh (nI hh) yn yr ym yo yrk yrv ypn yf yd ya yac yw yv y1 y2 y3 tk tv pk pv gk gv gh cn cd cD cP lk lv lh yH yPk yPv yPh yM yA wt wa ws wb wx vk vv vh := And.intro (vp_in_nI (by omega) (by omega)) (br_t (by rw [nI_clamp (by omega)]; exact hz) h)
  unfold wpY_doRet
  rcases hhh with ⟨z1, z2⟩ | ⟨z1, z2⟩
  · exact ⟨i3, br_t (by rw [e3]; exact z1) ⟨i3, by rw [e3, z2]; exact C⟩⟩
  · exact ⟨i3, br_f (by rw [e3]; exact z1) (by rw [← z2]; exact C)⟩
end
/-! the loop of Y -/
def wk_yr (K : Int32 → SY → Prop) (n : Nat) (r g : Int32) (v : SY) : Prop := match v with | (yn, yr, ym, yo, yrk, yrv, ypn, yf, yd, ya, yac, yw, yv, y1, y2, y3, tk, tv, pk, pv, gk, gv, gh, cn, cd, cD, cP, lk, lv, lh, yH, yPk, yPv, yPh, yM, yA, wt, wa, ws, wb, wx, vk, vv, vh) => wY_run_141 K n r g yn yr ym yo yrk yrv ypn yf yd ya yac yw yv y1 y2 y3 tk tv pk pv gk gv gh cn cd cD cP lk lv lh yH yPk yPv yPh yM yA wt wa ws wb wx vk vv vh
def wk_YGo (r : Int32) (g : Nat) (v : SY) (rf : Int32) (vf : SY) : Prop := ∀ K : Int32 → SY → Prop, K rf vf → ∃ n, wk_yr K n r (nI g) v
section
variable {yn yr ym yo yrk yrv ypn yf yd ya yac yw yv y1 y2 y3 : Int32} {tk tv pk pv gk gv gh cn cd cD cP lk lv lh yH yPk yPv yPh yM yA wt wa ws wb wx vk vv vh : Nat → Int32} {v' vf : SY} {r' rf : Int32} {g n : Nat}
theorem wk_ys (hg : g < 4000000) (hn : n < 256) (hb : ∀ K : Int32 → SY → Prop, K r' v' → wpY_step K (yn, yr, ym, yo, yrk, yrv, ypn, yf, yd, ya, yac, nI (n + 1), yv, y1, y2, y3, tk, tv, pk, pv, gk, gv, gh, cn, cd, cD, cP, lk, lv, lh, yH, yPk, yPv, yPh, yM, yA, wt, wa, ws, wb, wx, vk, vv, vh)) (h : wk_YGo r' (g + 1) v' rf vf) : wk_YGo 0 g (yn, yr, ym, yo, yrk, yrv, ypn, yf, yd, ya, yac, nI (n + 1), yv, y1, y2, y3, tk, tv, pk, pv, gk, gv, gh, cn, cd, cD, cP, lk, lv, lh, yH, yPk, yPv, yPh, yM, yA, wt, wa, ws, wb, wx, vk, vv, vh) rf vf := by
  intro K hK
  obtain ⟨m, hm⟩ := h K hK
  obtain ⟨q1, q2, q3, q4, q5, q6, q7, q8, q9, q10, q11, q12, q13, q14, q15, q16, q17, q18, q19, q20, q21, q22, q23, q24, q25, q26, q27, q28, q29, q30, q31, q32, q33, q34, q35, q36, q37, q38, q39, q40, q41, q42, q43, q44⟩ := v'
  refine ⟨m + 1, ?_⟩
  exact br_f (nI_ge (b := 4000000) hg (by decide)) (br_f (nI_nle (by omega) (by omega)) (br_t rfl (hb _ (nm_r (nI_1 g) hm))))
/-- stopped by an outcome -/
theorem wk_ye (hg : g < 4000000) (hr : rf ≠ 0) : wk_YGo rf g (yn, yr, ym, yo, yrk, yrv, ypn, yf, yd, ya, yac, yw, yv, y1, y2, y3, tk, tv, pk, pv, gk, gv, gh, cn, cd, cD, cP, lk, lv, lh, yH, yPk, yPv, yPh, yM, yA, wt, wa, ws, wb, wx, vk, vv, vh) rf (yn, yr, ym, rf, yrk, yrv, ypn, yf, yd, ya, yac, yw, yv, y1, y2, y3, tk, tv, pk, pv, gk, gv, gh, cn, cd, cD, cP, lk, lv, lh, yH, yPk, yPv, yPh, yM, yA, wt, wa, ws, wb, wx, vk, vv, vh) := by
  intro K hK
  refine ⟨1, br_f (nI_ge (b := 4000000) hg (by decide)) ?_⟩
  by_cases z : yw ≤ 0
  · exact br_t z (br_f hr hK)
  · exact br_f z (br_f hr (br_f hr hK))
/-- the first activation ends -/
theorem wk_y0 {vb : Nat} (hg : g < 4000000) (hv : vb < 512) {nx : Int32} {yAx : Nat → Int32} (hA : (yA 0 = 0 ∧ nx = yac ∧ yAx = yA) ∨ (yA 0 ≠ 0 ∧ nx = yac - 1 ∧ yAx = upd yA 0 0)) : wk_YGo 0 g (yn, yr, ym, yo, yrk, yrv, ypn, yf, yd, ya, yac, nI 0, nI (vb + 1), y1, y2, y3, tk, tv, pk, pv, gk, gv, gh, cn, cd, cD, cP, lk, lv, lh, yH, yPk, yPv, yPh, yM, yA, wt, wa, ws, wb, wx, vk, vv, vh) 1 (yn, yr, ym, 1, vk vb, vv vb, ypn, yf, yd, ya, nx, nI 0, nI vb, vk vb, vv vb, vh vb, tk, tv, pk, pv, gk, gv, gh, cn, cd, cD, cP, lk, lv, lh, yH, yPk, yPv, yPh, yM, yAx, wt, wa, ws, wb, wx, vk, vv, vh) := by
  intro K hK
  refine ⟨1, br_f (nI_ge (b := 4000000) hg (by decide)) (br_t (by decide) (br_t rfl (wy_popV hv ?_)))⟩
  rcases hA with ⟨z, rfl, rfl⟩ | ⟨z, rfl, rfl⟩
  · exact br_t z hK
  · exact br_f z (nm_r (show _ = upd yA 0 0 by rw [wk_b0]) (nm_e hK))
end
