section
variable {yn yr ym yo yrk yrv ypn yf yd ya yac yw yv y1 y2 y3 : Int32} {tk tv pk pv gk gv gh cn cd cD cP lk lv lh yH yPk yPv yPh yM yA wt wa ws wb wx vk vv vh : Nat → Int32} {post : Int32 → SY → Prop} {N : Nat}
theorem yc_pop {J25 : Int32 → Int32 → Int32 → (Nat → Int32) → (Nat → Int32) → (Nat → Int32) → (Nat → Int32) → (Nat → Int32) → (Nat → Int32) → (Nat → Int32) → (Nat → Int32) → (Nat → Int32) → (Nat → Int32) → (Nat → Int32) → (Nat → Int32) → (Nat → Int32) → (Nat → Int32) → (Nat → Int32) → (Nat → Int32) → (Nat → Int32) → (Nat → Int32) → (Nat → Int32) → (Nat → Int32) → (Nat → Int32) → (Nat → Int32) → (Nat → Int32) → (Nat → Int32) → (Nat → Int32) → (Nat → Int32) → (Nat → Int32) → (Nat → Int32) → Prop} {x2 x3 : Int32} : ∀ sp, sp ≤ 128 → J25 (nI (hc_pp cn sp)) x2 (x3 + 1) tk tv pk pv gk gv gh cn cd cD cP lk lv lh yH yPk yPv yPh yM yA wt wa ws wb wx vk vv vh → wY_compile_119 post J25 x2 x3 yn yr ym yo yrk yrv ypn yf yd ya yac yw yv y1 y2 y3 tk tv pk pv gk gv gh cn cd cD cP lk lv lh yH yPk yPv yPh yM yA wt wa ws wb wx vk vv vh (sp + 1) (nI sp)
  | 0, _, h => br_t (by decide) (nm_e h)
  | sp + 1, hs, h => by
    have e : nI (sp + 1) - 1 = nI sp := nI_pred sp
    have e1 : (nI sp).toNatClampNeg = sp := nI_clamp (by omega)
    simp only [hc_pp] at h
    refine br_f (nI_nle (by omega) (by omega)) ⟨by rw [e]; exact vp_in_nI (by omega) (by omega), ?_⟩
    rw [e, e1]
    by_cases z : cn sp = 0
    · rw [if_pos z] at h
      exact br_t z (nm_r (pk_m1 sp) (yc_pop sp (by omega) h))
    · rw [if_neg z] at h
      exact br_f z (nm_e h)
theorem yc_scan (hN : N ≤ 128) (hT : hp_T tk tv N) (Inv : Nat → Nat → Nat → (Nat → Int32) → (Nat → Int32) → (Nat → Int32) → (Nat → Int32) → Prop)
    (hb : ∀ i sp cnt need node dep par, Inv i sp cnt need node dep par → sp ≤ i ∧ cnt ≤ i)
    (hs : ∀ i sp cnt need node dep par, i < N → Inv i sp cnt need node dep par → Inv (i + 1) (hc_pp (hc_n1 sp (hp_a tk i) need) (sp + 1)) (hc_c1 sp cnt) (hc_n1 sp (hp_a tk i) need) (upd node sp (nI i)) (upd dep i (nI (sp + 1))) (upd par i (hc_p1 sp node)))
    (hx : ∀ sp cnt need node dep par, Inv N sp cnt need node dep par → ((nI sp ≤ 0 → ((nI cnt ≤ 8 → ∃ n162 : Nat, wY_compile_162 post (nI cnt) (nI N) yr ym yo yrk yrv ypn yf yd ya yac yw yv y1 y2 y3 tk tv pk pv gk gv gh need node dep par lk lv lh yH yPk yPv yPh yM yA wt wa ws wb wx vk vv vh n162 0) ∧ (¬ nI cnt ≤ 8 → post 3 (nI N, yr, ym, yo, yrk, yrv, ypn, yf, yd, ya, yac, yw, yv, y1, y2, y3, tk, tv, pk, pv, gk, gv, gh, need, node, dep, par, lk, lv, lh, yH, yPk, yPv, yPh, yM, yA, wt, wa, ws, wb, wx, vk, vv, vh)))) ∧ (¬ nI sp ≤ 0 → post 2 (nI N, yr, ym, yo, yrk, yrv, ypn, yf, yd, ya, yac, yw, yv, y1, y2, y3, tk, tv, pk, pv, gk, gv, gh, need, node, dep, par, lk, lv, lh, yH, yPk, yPv, yPh, yM, yA, wt, wa, ws, wb, wx, vk, vv, vh)))) :
    ∀ d i sp cnt (cn cd cD cP : Nat → Int32), i + d = N → Inv i sp cnt cn cd cD cP → wY_compile_25 post (nI N) yr ym yo yrk yrv ypn yf yd ya yac yw yv y1 y2 y3 (d + 1) (nI sp) (nI cnt) (nI i) tk tv pk pv gk gv gh cn cd cD cP lk lv lh yH yPk yPv yPh yM yA wt wa ws wb wx vk vv vh := by
  intro d
  induction d with
  | zero =>
    intro i sp cnt cn cd cD cP hi H
    have e : i = N := by omega
    subst e
    exact br_t (nI_le (Nat.le_refl _) (by omega)) (hx sp cnt cn cd cD cP H)
  | succ d ih =>
    intro i sp cnt cn cd cD cP hi H
    obtain ⟨b1, b2⟩ := hb _ _ _ _ _ _ _ H
    have w := ih (i + 1) _ _ _ _ _ _ (by omega) (hs i sp cnt cn cd cD cP (by omega) H)
    obtain ⟨k, k1, k2⟩ := hp_k hT (show i < N by omega)
    have ea : hp_a tk i = hc_ar (nI k) := by unfold hp_a; rw [k2]
    have ei : (nI i).toNatClampNeg = i := nI_clamp (by omega)
    have es : (nI sp).toNatClampNeg = sp := nI_clamp (by omega)
    have ii : vp_in (nI i) 128 := vp_in_nI (by omega) (by omega)
    have is : vp_in (nI sp) 128 := vp_in_nI (by omega) (by omega)
    have T85 : ∀ (c' z0 : Int32) (cn' : Nat → Int32), c' = nI (hc_c1 sp cnt) → z0 = hc_p1 sp cd → upd cn' sp (nI (hp_a tk i)) = hc_n1 sp (hp_a tk i) cn → wY_compile_85 post (wY_compile_25 post (nI N) yr ym yo yrk yrv ypn yf yd ya yac yw yv y1 y2 y3 (d + 1)) (nI sp) c' (nI i) z0 (nI i) (nI N) yr ym yo yrk yrv ypn yf yd ya yac yw yv y1 y2 y3 tk tv pk pv gk gv gh cn' cd (upd cD i (nI (sp + 1))) cP lk lv lh yH yPk yPv yPh yM yA wt wa ws wb wx vk vv vh := by
      intro c' z0 cn' hc hz hn
      subst hc hz
      refine And.intro ii (nm_r (show _ = upd cP i (hc_p1 sp cd) by rw [ei]) (br_f (nI_ge (b := 128) (by omega) (by decide)) ⟨ii, ?_⟩))
      rw [ei, k2]
      refine wy_arity k1 ⟨is, nm_r (show _ = hc_n1 sp (hp_a tk i) cn by rw [es, ← ea]; exact hn) ⟨is, nm_r (show _ = upd cd sp (nI i) by rw [es]) (nm_r (nI_1 sp) ⟨sp + 1 + 1, ?_⟩)⟩⟩
      refine yc_pop (sp + 1) (by omega) ?_
      rw [nI_1 i]; exact w
    refine br_f (nI_ge (by omega) (by omega)) ?_
    cases sp with
    | zero =>
      refine br_t (by decide) (nm_r (nI_1 cnt) ⟨ii, nm_r (show _ = upd cD i (nI (0 + 1)) by rw [ei]; rfl) (br_t (by decide) ?_)⟩)
      exact T85 _ _ _ (by rw [show hc_c1 0 cnt = cnt + 1 from if_neg (by omega)]) (show (-1 : Int32) = hc_p1 0 cd from (if_neg (by omega)).symm) (by unfold hc_n1; rw [if_neg (by omega)])
    | succ s =>
      have e : nI (s + 1) - 1 = nI s := nI_pred s
      have e2 : (nI s).toNatClampNeg = s := nI_clamp (by omega)
      have ip : vp_in (nI s) 128 := vp_in_nI (by omega) (by omega)
      refine br_f (nI_nle (by omega) (by omega)) ⟨by rw [e]; exact ip, by rw [e]; exact ip, nm_r (show _ = upd cn s (cn s - 1) by rw [e, e2]) ⟨ii, nm_r (show _ = upd cD i (nI (s + 1 + 1)) by rw [ei, nI_1]) (br_f (nI_nle (by omega) (by omega)) ⟨by rw [e]; exact ip, ?_⟩)⟩⟩
      exact T85 _ _ _ (by rw [show hc_c1 (s + 1) cnt = cnt from if_pos (by omega)]) (by rw [e, e2]; exact (if_pos (Nat.succ_pos s)).symm) (by unfold hc_n1; rw [if_pos (by omega)]; rfl)
/-! the checks of Y -/
theorem yc_292 {c : Int32} (hN : N ≤ 128) (h1 : (∃ j, j < N ∧ tk j = 15 ∧ ¬ tv j < c) → post 6 (nI N, yr, ym, yo, yrk, yrv, ypn, yf, yd, ya, yac, yw, yv, y1, y2, y3, tk, tv, pk, pv, gk, gv, gh, cn, cd, cD, cP, lk, lv, lh, yH, yPk, yPv, yPh, yM, yA, wt, wa, ws, wb, wx, vk, vv, vh)) (h0 : (∀ j, j < N → tk j = 15 → tv j < c) → post 0 (nI N, 1, c, yo, yrk, yrv, ypn, yf, yd, ya, yac, yw, yv, y1, y2, y3, tk, tv, pk, pv, gk, gv, gh, cn, cd, cD, cP, lk, lv, lh, yH, yPk, yPv, yPh, yM, yA, wt, wa, ws, wb, wx, vk, vv, vh)) : ∃ n292, wY_compile_292 post c (nI N) yr ym yo yrk yrv ypn yf yd ya yac yw yv y1 y2 y3 tk tv pk pv gk gv gh cn cd cD cP lk lv lh yH yPk yPv yPh yM yA wt wa ws wb wx vk vv vh n292 0 := by
  have key : ∀ d i, i + d = N → (∀ j, j < i → tk j = 15 → tv j < c) → wY_compile_292 post c (nI N) yr ym yo yrk yrv ypn yf yd ya yac yw yv y1 y2 y3 tk tv pk pv gk gv gh cn cd cD cP lk lv lh yH yPk yPv yPh yM yA wt wa ws wb wx vk vv vh (d + 1) (nI i) := by
    intro d
    induction d with
    | zero =>
      intro i hi H
      have e : i = N := by omega
      subst e
      exact br_t (nI_le (Nat.le_refl _) (by omega)) (h0 H)
    | succ d ih =>
      intro i hi H
      have e1 : (nI i).toNatClampNeg = i := nI_clamp (by omega)
      have i1 : vp_in (nI i) 128 := vp_in_nI (by omega) (by omega)
      refine br_f (nI_ge (by omega) (by omega)) ⟨i1, ?_⟩
      rw [e1]
      by_cases z : tk i = 15
      · refine br_t z ⟨i1, ?_⟩
        by_cases y : tv i < c
        · exact br_t y (nm_r (nI_1 i) (ih (i + 1) (by omega) (lt_s (p := fun j => tk j = 15 → tv j < c) H (fun _ => y))))
        · exact br_f y (h1 ⟨i, by omega, z, y⟩)
      · exact br_f z (nm_r (nI_1 i) (ih (i + 1) (by omega) (lt_s (p := fun j => tk j = 15 → tv j < c) H (fun x => absurd x z))))
  exact ⟨N + 1, key N 0 (by omega) (fun j hj => by omega)⟩
/-- up the parents of token j -/
theorem yc_226 {J191 : Int32 → Prop} {x2 x3 : Int32} {F : Nat → Prop} (hN : N ≤ 128) (hF : ∀ j, j < N → (cP j = -1 ∧ ¬ F j) ∨ (∃ t, t < j ∧ cP j = nI t ∧ (F j ↔ (F t ∨ tk t = 13)))) : ∀ d j c, j ≤ d → j < N → c + j ≤ 128 → (F j → wY_compile_277 post J191 x2 x3 1 (nI N) yr ym yo yrk yrv ypn yf yd ya yac yw yv y1 y2 y3 tk tv pk pv gk gv gh cn cd cD cP lk lv lh yH yPk yPv yPh yM yA wt wa ws wb wx vk vv vh) → (¬ F j → wY_compile_277 post J191 x2 x3 0 (nI N) yr ym yo yrk yrv ypn yf yd ya yac yw yv y1 y2 y3 tk tv pk pv gk gv gh cn cd cD cP lk lv lh yH yPk yPv yPh yM yA wt wa ws wb wx vk vv vh) → wY_compile_226 post J191 x2 x3 (nI N) yr ym yo yrk yrv ypn yf yd ya yac yw yv y1 y2 y3 tk tv pk pv gk gv gh cn cd cD cP lk lv lh yH yPk yPv yPh yM yA wt wa ws wb wx vk vv vh (d + 2) (cP j) 0 (nI c) := by
  intro d
  induction d with
  | zero =>
    intro j c hj hjN hc h1 h0
    rcases hF j hjN with ⟨e, nf⟩ | ⟨t, ht, -⟩
    · rw [e]
      by_cases z : c = 128
      · subst z; exact br_t (by decide) (h0 nf)
      · exact br_f (nI_ge (b := 128) (by omega) (by decide)) (br_t (by decide) (h0 nf))
    · omega
  | succ d ih =>
    intro j c hj hjN hc h1 h0
    rcases hF j hjN with ⟨e, nf⟩ | ⟨t, ht, e, hf⟩
    · rw [e]
      by_cases z : c = 128
      · subst z; exact br_t (by decide) (h0 nf)
      · exact br_f (nI_ge (b := 128) (by omega) (by decide)) (br_t (by decide) (h0 nf))
    · have e1 : (nI t).toNatClampNeg = t := nI_clamp (by omega)
      have i1 : vp_in (nI t) 128 := vp_in_nI (by omega) (by omega)
      rw [e]
      refine br_f (nI_ge (b := 128) (by omega) (by decide)) (br_f (nI_pos (by omega)) (br_t rfl ⟨i1, ?_⟩))
      rw [e1]
      by_cases z : tk t = 13
      · refine br_t z (nm_r (nI_1 c) ?_)
        have q := h1 (hf.mpr (Or.inr z))
        by_cases y : c + 1 = 128
        · rw [y]; exact br_t (by decide) q
        · exact br_f (nI_ge (b := 128) (by omega) (by decide)) (br_f (nI_pos (by omega)) (br_f (by decide) q))
      · exact br_f z ⟨i1, nm_r rfl (nm_r (nI_1 c) (ih t (c + 1) (by omega) (by omega) (by omega) (fun x => h1 (hf.mpr (Or.inl x))) (fun x => h0 (fun y => (hf.mp y).elim x z))))⟩
theorem yc_191 {c : Int32} {F : Nat → Prop} (hN : N ≤ 128) (hF : ∀ j, j < N → (cP j = -1 ∧ ¬ F j) ∨ (∃ t, t < j ∧ cP j = nI t ∧ (F j ↔ (F t ∨ tk t = 13)))) (h1 : (∃ j, j < N ∧ tk j = 5 ∧ ¬ F j) → post 5 (nI N, yr, ym, yo, yrk, yrv, ypn, yf, yd, ya, yac, yw, yv, y1, y2, y3, tk, tv, pk, pv, gk, gv, gh, cn, cd, cD, cP, lk, lv, lh, yH, yPk, yPv, yPh, yM, yA, wt, wa, ws, wb, wx, vk, vv, vh)) (h0 : (∀ j, j < N → tk j = 5 → F j) → ∃ n292, wY_compile_292 post c (nI N) yr ym yo yrk yrv ypn yf yd ya yac yw yv y1 y2 y3 tk tv pk pv gk gv gh cn cd cD cP lk lv lh yH yPk yPv yPh yM yA wt wa ws wb wx vk vv vh n292 0) : ∃ n191, wY_compile_191 post c (nI N) yr ym yo yrk yrv ypn yf yd ya yac yw yv y1 y2 y3 tk tv pk pv gk gv gh cn cd cD cP lk lv lh yH yPk yPv yPh yM yA wt wa ws wb wx vk vv vh n191 0 := by
  have key : ∀ d i, i + d = N → (∀ j, j < i → tk j = 5 → F j) → wY_compile_191 post c (nI N) yr ym yo yrk yrv ypn yf yd ya yac yw yv y1 y2 y3 tk tv pk pv gk gv gh cn cd cD cP lk lv lh yH yPk yPv yPh yM yA wt wa ws wb wx vk vv vh (d + 1) (nI i) := by
    intro d
    induction d with
    | zero =>
      intro i hi H
      have e : i = N := by omega
      subst e
      exact br_t (nI_le (Nat.le_refl _) (by omega)) (h0 H)
    | succ d ih =>
      intro i hi H
      have e1 : (nI i).toNatClampNeg = i := nI_clamp (by omega)
      have i1 : vp_in (nI i) 128 := vp_in_nI (by omega) (by omega)
      refine br_f (nI_ge (by omega) (by omega)) ⟨i1, ?_⟩
      rw [e1]
      by_cases z : tk i = 5
      · refine br_t z ⟨i1, nm_e ⟨i + 2, ?_⟩⟩
        refine yc_226 hN hF i i 0 (Nat.le_refl _) (by omega) (by omega) (fun x => ?_) (fun x => ?_)
        · exact br_f (by decide) (nm_r (nI_1 i) (ih (i + 1) (by omega) (lt_s (p := fun j => tk j = 5 → F j) H (fun _ => x))))
        · exact br_t rfl (h1 ⟨i, by omega, z, x⟩)
      · exact br_f z (nm_r (nI_1 i) (ih (i + 1) (by omega) (lt_s (p := fun j => tk j = 5 → F j) H (fun x => absurd x z))))
  exact ⟨N + 1, key N 0 (by omega) (fun j hj => by omega)⟩
theorem yc_162 {c : Int32} (hN : N ≤ 128) (h1 : (∃ j, j < N ∧ ¬ cD j ≤ 8) → post 4 (nI N, yr, ym, yo, yrk, yrv, ypn, yf, yd, ya, yac, yw, yv, y1, y2, y3, tk, tv, pk, pv, gk, gv, gh, cn, cd, cD, cP, lk, lv, lh, yH, yPk, yPv, yPh, yM, yA, wt, wa, ws, wb, wx, vk, vv, vh)) (h0 : (∀ j, j < N → cD j ≤ 8) → ∃ n191, wY_compile_191 post c (nI N) yr ym yo yrk yrv ypn yf yd ya yac yw yv y1 y2 y3 tk tv pk pv gk gv gh cn cd cD cP lk lv lh yH yPk yPv yPh yM yA wt wa ws wb wx vk vv vh n191 0) : ∃ n162, wY_compile_162 post c (nI N) yr ym yo yrk yrv ypn yf yd ya yac yw yv y1 y2 y3 tk tv pk pv gk gv gh cn cd cD cP lk lv lh yH yPk yPv yPh yM yA wt wa ws wb wx vk vv vh n162 0 := by
  have key : ∀ d i, i + d = N → (∀ j, j < i → cD j ≤ 8) → wY_compile_162 post c (nI N) yr ym yo yrk yrv ypn yf yd ya yac yw yv y1 y2 y3 tk tv pk pv gk gv gh cn cd cD cP lk lv lh yH yPk yPv yPh yM yA wt wa ws wb wx vk vv vh (d + 1) (nI i) := by
    intro d
    induction d with
    | zero =>
      intro i hi H
      have e : i = N := by omega
      subst e
      exact br_t (nI_le (Nat.le_refl _) (by omega)) (h0 H)
    | succ d ih =>
      intro i hi H
      have e1 : (nI i).toNatClampNeg = i := nI_clamp (by omega)
      refine br_f (nI_ge (by omega) (by omega)) ⟨vp_in_nI (by omega) (by omega), ?_⟩
      rw [e1]
      by_cases z : cD i ≤ 8
      · exact br_t z (nm_r (nI_1 i) (ih (i + 1) (by omega) (lt_s H z)))
      · exact br_f z (h1 ⟨i, by omega, z⟩)
  exact ⟨N + 1, key N 0 (by omega) (fun j hj => by omega)⟩
end
