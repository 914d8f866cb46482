section
variable {yn yr ym yo yrk yrv ypn yf yd ya yac yw yv y1 y2 y3 : Int32} {tk tv pk pv gk gv gh cn cd cD cP lk lv lh yH yPk yPv yPh yM yA wt wa ws wb wx vk vv vh : Nat → Int32} {post : Int32 → SY → Prop} {N : Nat} {f : Nat → Nat}
theorem yc_ok (hN : N ≤ 128) (h0 : 0 < N) (hT : hp_T tk tv N) (L : hc_Lk (hp_a tk) f 0 N)
    (hx : ∀ cnt need node dep par, hc_Ok (hp_a tk) f N 0 cnt need node dep par → hc_it f cnt 0 = N → ((nI cnt ≤ 8 → ∃ n162 : Nat, wY_compile_162 post (nI cnt) (nI N) 0 0 yo yrk yrv ypn yf yd ya yac yw yv y1 y2 y3 tk tv pk pv gk gv gh need node dep par lk lv lh yH yPk yPv yPh yM yA wt wa ws wb wx vk vv vh n162 0) ∧ (¬ nI cnt ≤ 8 → post 3 (nI N, 0, 0, yo, yrk, yrv, ypn, yf, yd, ya, yac, yw, yv, y1, y2, y3, tk, tv, pk, pv, gk, gv, gh, need, node, dep, par, lk, lv, lh, yH, yPk, yPv, yPh, yM, yA, wt, wa, ws, wb, wx, vk, vv, vh)))) : wpY_compile post (nI N, yr, ym, yo, yrk, yrv, ypn, yf, yd, ya, yac, yw, yv, y1, y2, y3, tk, tv, pk, pv, gk, gv, gh, cn, cd, cD, cP, lk, lv, lh, yH, yPk, yPv, yPh, yM, yA, wt, wa, ws, wb, wx, vk, vv, vh) := by
  unfold wpY_compile
  refine br_f (nI_ne0 h0 (by omega)) ⟨N + 1, ?_⟩
  refine yc_scan hN hT (hc_Ok (hp_a tk) f) (fun i sp cnt need node dep par H => ⟨H.1, H.2.2.2.2.2.1⟩) (fun i sp cnt need node dep par hi H => hc_Ok_s (fun t => hc_ar3 _) L hi H) (fun sp cnt need node dep par H => ?_) N 0 0 0 cn cd cD cP (by omega) hc_Ok_0
  obtain ⟨e1, e2⟩ := hc_Ok_e L H
  subst e1
  exact br_t (by decide) (hx cnt need node dep par H e2)
theorem yc_bad {t0 q0 : Nat} (hN : N ≤ 128) (h0 : 0 < N) (hT : hp_T tk tv N) (ht : t0 < N) (L : hc_Lk (hp_a tk) f (t0 + 1) N) (hq : q0 < hp_a tk t0) (hq2 : N ≤ hc_it f q0 (t0 + 1))
    (hx : ∀ need node dep par, post 2 (nI N, 0, 0, yo, yrk, yrv, ypn, yf, yd, ya, yac, yw, yv, y1, y2, y3, tk, tv, pk, pv, gk, gv, gh, need, node, dep, par, lk, lv, lh, yH, yPk, yPv, yPh, yM, yA, wt, wa, ws, wb, wx, vk, vv, vh)) : wpY_compile post (nI N, yr, ym, yo, yrk, yrv, ypn, yf, yd, ya, yac, yw, yv, y1, y2, y3, tk, tv, pk, pv, gk, gv, gh, cn, cd, cD, cP, lk, lv, lh, yH, yPk, yPv, yPh, yM, yA, wt, wa, ws, wb, wx, vk, vv, vh) := by
  unfold wpY_compile
  refine br_f (nI_ne0 h0 (by omega)) ⟨N + 1, ?_⟩
  refine yc_scan hN hT (fun i sp cnt need node dep _ => hc_Bad (hp_a tk) f t0 q0 i sp need node dep ∧ cnt ≤ i) (fun i sp cnt need node dep par H => ⟨H.1.1, H.2⟩) (fun i sp cnt need node dep par hi H => ⟨hc_Bad_s (fun t => hc_ar3 _) L hq hq2 hi H.1, ?_⟩) (fun sp cnt need node dep par H => ?_) N 0 0 0 cn cd cD cP (by omega) ⟨hc_Bad_0, Nat.le_refl _⟩
  · have := H.2
    unfold hc_c1
    split <;> omega
  · have p := hc_Bad_e ht H.1
    have b := H.1.1
    exact br_f (nI_nle p (by omega)) (hx need node dep par)
end
theorem yc_facts {tk dp ib need node dep par : Nat → Int32} {f : Nat → Nat} {N e : Nat} (Pl : hc_Pl tk f e N dp ib) (ok : hc_Ok (hp_a tk) f N 0 e need node dep par) :
    (∀ j, j < N → dep j = dp j) ∧ (∀ j, j < N → (par j = -1 ∧ ¬ ib j ≠ 0) ∨ (∃ t, t < j ∧ par j = nI t ∧ (ib j ≠ 0 ↔ (ib t ≠ 0 ∨ tk t = 13)))) := by
  obtain ⟨b1, b2, b3, b4, b5, b6, b7⟩ := ok
  constructor
  · have key : ∀ n j, j < n → j < N → dep j = dp j := by
      intro n
      induction n with
      | zero => intro j h; omega
      | succ n ih =>
        intro j hj hN
        rcases b5 j hN with ⟨k, k1, k2, k3, k4⟩ | ⟨t, d, t1, t2, t3, t4, t5⟩
        · rw [k3, k2]; exact (Pl.1 k k1).1.symm
        · have i := ih t (by omega) (by omega)
          rw [t5, (Pl.2 t (by omega) j t2).1, ← i, t4, nI_1]
    exact fun j hj => key (j + 1) j (Nat.lt_succ_self j) hj
  · intro j hN
    rcases b5 j hN with ⟨k, k1, k2, k3, k4⟩ | ⟨t, d, t1, t2, t3, t4, t5⟩
    · refine Or.inl ⟨k4, fun x => x ?_⟩
      rw [k2]; exact (Pl.1 k k1).2
    · refine Or.inr ⟨t, t1, t3, ?_⟩
      rw [(Pl.2 t (by omega) j t2).2]
      unfold hc_ib
      by_cases z : ib t ≠ 0 ∨ tk t = 13
      · rw [if_pos z]; exact ⟨fun _ => z, fun _ => by decide⟩
      · rw [if_neg z]; exact ⟨fun x => absurd rfl x, fun x => absurd x z⟩
theorem yc_G {tk tv dp ib need node dep par : Nat → Int32} {f : Nat → Nat} {N e : Nat} (hN : N ≤ 128) (h0 : 0 < N) (hT : hp_T tk tv N) (L : hc_Lk (hp_a tk) f 0 N) (he : e ≤ 8) (r1 : hc_it f e 0 = N) (r2 : ∀ k, k < e → hc_it f k 0 < N) (Pl : hc_Pl tk f e N dp ib) (ok : hc_Ok (hp_a tk) f N 0 e need node dep par)
    (hd : ∀ j, j < N → dp j ≤ 8) (hp : ∀ j, j < N → tk j = 5 → ib j ≠ 0) (hc : ∀ j, j < N → tk j = 15 → tv j < nI e) : hp_G tk tv N f (fun j => (dp j).toNatClampNeg) (fun j => decide (¬ ib j = 0)) e := by
  obtain ⟨fe, -⟩ := yc_facts Pl ok
  have b7 := ok.2.2.2.2.2.2
  have e1 : 1 ≤ e := by
    rcases Nat.eq_zero_or_pos e with z | z
    · rw [z] at r1
      have : (0 : Nat) = N := r1
      omega
    · exact z
  refine ⟨hN, L, fun t ht => ?_, fun t ht c hch => ?_, fun m hm => ⟨r2 m hm, ?_⟩, fun t ht h5 => ?_, fun t ht h15 => ?_, hT, e1, he⟩
  · obtain ⟨d, d1, d2, d3⟩ := b7 t ht
    have x := hd t ht
    rw [← fe t ht, d3] at x
    have x8 : d ≤ 8 := (nI_leI (b := 8) (by omega) (by decide)).mp x
    show 1 ≤ (dp t).toNatClampNeg ∧ (dp t).toNatClampNeg ≤ 8
    rw [← fe t ht, d3, nI_clamp (by omega)]
    exact ⟨d1, x8⟩
  · obtain ⟨d, d1, d2, d3⟩ := b7 t ht
    obtain ⟨p1, p2⟩ := Pl.2 t ht c hch
    rw [← fe t ht, d3, nI_1] at p1
    refine ⟨?_, fun h13 hB => ?_⟩
    · show (dp c).toNatClampNeg = (dp t).toNatClampNeg + 1
      rw [p1, ← fe t ht, d3, nI_clamp (by omega), nI_clamp (by omega)]
    · have z : ib t = 0 := by
        have := of_decide_eq_false hB
        exact Decidable.of_not_not this
      have w : ib c = 0 := by
        rw [p2]; unfold hc_ib; rw [if_neg (fun x => x.elim (fun y => y z) h13)]
      exact decide_eq_false (fun x => x w)
  · exact decide_eq_false (fun x => x (Pl.1 m hm).2)
  · exact decide_eq_true (hp t ht h5)
  · obtain ⟨k, k1, k2, -, -, k5⟩ := hT t ht
    have kk : k = 15 := by
      rw [k2] at h15
      exact (nI_eq (b := 15) (by omega) (by decide)).mp h15
    obtain ⟨j, j1, j2⟩ := k5 kk
    have x := hc t ht h15
    rw [j2] at x
    exact ⟨j, (nI_ltI (by omega) (by omega)).mp x, j2⟩
theorem i_vc_compile {k : Nat} {u : SX} {v : SY} (I : i_Rel k u v) (hk : k + 3 ≤ 1536) : wpX_compile (fun r u' => wpY_compile (fun r' v' => r' = r ∧ i_Rel (k + 3) u' v') v) u := by
  obtain ⟨xn, xm, xo, xr, xpn, xf, xd, xa, xh, xp, xt, xv, xy, tk, tv, af, dp, ib, ms, pr, gl, aH, aP, aB, lo, hP, pT, pL, pV⟩ := u
  obtain ⟨yn, yr, ym, yo, yrk, yrv, ypn, yf, yd, ya, yac, yw, yv, y1, y2, y3, tk2, tv2, pk, pv, gk, gv, gh, cn, cd, cD, cP, lk, lv, lh, yH, yPk, yPv, yPh, yM, yA, wt, wa, ws, wb, wx, vk, vv, vh⟩ := v
  have I' := I
  obtain ⟨N, mc, pn, rfl, rfl, hN, rfl, rfl, hT, rfl, hm8, hG, rfl, rfl, rfl, hr, rfl, rfl, hpn, hp, hg⟩ := I
  by_cases z : N = 0
  · subst z
    exact br_t rfl (br_t rfl (And.intro rfl (hr_R_mk (N := 0) (mc := 0) hN hT (by omega) (Or.inl ⟨rfl, rfl⟩) hr hpn hp hg)))
  · have h0 : 0 < N := by omega
    unfold wpX_compile
    refine br_f (nI_ne0 h0 (by omega)) ?_
    refine wx_link hN hT (fun f af' t0 q0 h1 h2 h3 h4 => ?_) (fun f af' L haf => ?_)
    · refine br_t rfl ?_
      refine yc_bad hN h0 hT h1 h2 h3 h4 (fun need node dep par => ?_)
      exact And.intro rfl (hr_R_mk (mc := 0) hN hT (by omega) (Or.inl ⟨rfl, rfl⟩) hr hpn hp hg)
    · refine br_f (by decide) ?_
      refine wx_roots hN L haf (fun e dp1 ib1 ms1 r1 r2 r3 r4 r5 => ?_)
      by_cases e8 : e ≤ 8
      · refine br_t (nI_le (b := 8) e8 (by decide)) ?_
        refine wx_opers hN hT L haf r2 r5 (fun dp2 ib2 Pl => ?_)
        have cc : ∀ cnt need node dep par, hc_Ok (hp_a tk2) f N 0 cnt need node dep par → hc_it f cnt 0 = N → cnt = e := fun cnt need node dep par ok it => hc_cnt it (fun k hk => ok.2.2.2.1 k hk) r1 r2
        refine wx_deep hN (fun hd => ?_) (fun hd => ?_)
        · refine br_f (by decide) ?_
          refine yc_ok hN h0 hT L (fun cnt need node dep par ok it => ?_)
          have ce := cc cnt need node dep par ok it
          subst ce
          obtain ⟨fe, ff⟩ := yc_facts Pl ok
          refine br_t (nI_le (b := 8) e8 (by decide)) (yc_162 hN (fun _ => ?_) (fun y => ?_))
          · exact And.intro rfl (hr_R_mk (mc := 0) hN hT (by omega) (Or.inl ⟨rfl, rfl⟩) hr hpn hp hg)
          · obtain ⟨j, j1, j2⟩ := hd
            exact absurd (by rw [← fe j j1]; exact y j j1) j2
        · refine br_t rfl ?_
          refine wx_par hN (fun hq => ?_) (fun hq => ?_)
          · refine br_f (by decide) ?_
            refine yc_ok hN h0 hT L (fun cnt need node dep par ok it => ?_)
            have ce := cc cnt need node dep par ok it
            subst ce
            obtain ⟨fe, ff⟩ := yc_facts Pl ok
            refine br_t (nI_le (b := 8) e8 (by decide)) (yc_162 hN (fun y => ?_) (fun _ => yc_191 (F := fun j => ib2 j ≠ 0) hN ff (fun _ => ?_) (fun y => ?_)))
            · obtain ⟨j, j1, j2⟩ := y
              exact absurd (by rw [fe j j1]; exact hd j j1) j2
            · exact And.intro rfl (hr_R_mk (mc := 0) hN hT (by omega) (Or.inl ⟨rfl, rfl⟩) hr hpn hp hg)
            · obtain ⟨j, j1, j2, j3⟩ := hq
              exact absurd j3 (y j j1 j2)
          · refine br_t rfl ?_
            refine wx_calls hN (fun hk2 => ?_) (fun hk2 => ?_)
            · refine br_f (by decide) ?_
              refine yc_ok hN h0 hT L (fun cnt need node dep par ok it => ?_)
              have ce := cc cnt need node dep par ok it
              subst ce
              obtain ⟨fe, ff⟩ := yc_facts Pl ok
              refine br_t (nI_le (b := 8) e8 (by decide)) (yc_162 hN (fun y => ?_) (fun _ => yc_191 (F := fun j => ib2 j ≠ 0) hN ff (fun y => ?_) (fun _ => yc_292 hN (fun _ => ?_) (fun y => ?_))))
              · obtain ⟨j, j1, j2⟩ := y
                exact absurd (by rw [fe j j1]; exact hd j j1) j2
              · obtain ⟨j, j1, j2, j3⟩ := y
                exact absurd (hq j j1 j2) j3
              · exact And.intro rfl (hr_R_mk (mc := 0) hN hT (by omega) (Or.inl ⟨rfl, rfl⟩) hr hpn hp hg)
              · obtain ⟨j, j1, j2, j3⟩ := hk2
                exact absurd (y j j1 j2) j3
            · refine br_t rfl ?_
              refine yc_ok hN h0 hT L (fun cnt need node dep par ok it => ?_)
              have ce := cc cnt need node dep par ok it
              subst ce
              obtain ⟨fe, ff⟩ := yc_facts Pl ok
              refine br_t (nI_le (b := 8) e8 (by decide)) (yc_162 hN (fun y => ?_) (fun _ => yc_191 (F := fun j => ib2 j ≠ 0) hN ff (fun y => ?_) (fun _ => yc_292 hN (fun y => ?_) (fun _ => ?_))))
              · obtain ⟨j, j1, j2⟩ := y
                exact absurd (by rw [fe j j1]; exact hd j j1) j2
              · obtain ⟨j, j1, j2, j3⟩ := y
                exact absurd (hq j j1 j2) j3
              · obtain ⟨j, j1, j2, j3⟩ := y
                exact absurd (hk2 j j1 j2) j3
              · exact And.intro rfl (hr_R_mk hN hT e8 (Or.inr ⟨rfl, rfl, f, _, _, yc_G hN h0 hT L e8 r1 r2 Pl ok hd hq hk2, haf, fun m hm => r4 m hm (by omega)⟩) hr hpn hp hg)
      · refine br_f (nI_ge (a := 8) (by omega) (by omega)) ?_
        refine yc_ok hN h0 hT L (fun cnt need node dep par ok it => ?_)
        have ce : cnt = e := hc_cnt it (fun k hk => ok.2.2.2.1 k hk) r1 r2
        subst ce
        refine br_f (nI_ge (a := 8) (by omega) (by omega)) ?_
        exact And.intro rfl (hr_R_mk (mc := 0) hN hT (by omega) (Or.inl ⟨rfl, rfl⟩) hr hpn hp hg)
