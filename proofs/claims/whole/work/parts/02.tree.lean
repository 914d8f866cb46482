/-! trees in prefix form: a = arities, f = the token behind the whole expression -/
def hc_it (f : Nat → Nat) : Nat → Nat → Nat
  | 0, x => x
  | q + 1, x => hc_it f q (f x)
theorem hc_it_s (f : Nat → Nat) : ∀ q x, hc_it f (q + 1) x = f (hc_it f q x)
  | 0, _ => rfl
  | q + 1, x => hc_it_s f q (f x)
theorem hc_it_add (f : Nat → Nat) (p : Nat) : ∀ q x, hc_it f (p + q) x = hc_it f p (hc_it f q x)
  | 0, _ => rfl
  | q + 1, x => hc_it_add f p q (f x)
def hc_Lk (a f : Nat → Nat) (lo n : Nat) : Prop := ∀ i, lo ≤ i → i < n → (∀ q, q < a i → hc_it f q (i + 1) < n) ∧ f i = hc_it f (a i) (i + 1)
theorem hc_lt' {a f : Nat → Nat} {lo n : Nat} (L : hc_Lk a f lo n) : ∀ d i, n - i ≤ d → lo ≤ i → i < n → (i < f i ∧ f i ≤ n) ∧ ∀ q, q ≤ a i → i < hc_it f q (i + 1) ∧ hc_it f q (i + 1) ≤ n := by
  intro d
  induction d with
  | zero => intro i h1 h2 h3; omega
  | succ d ih =>
    intro i h1 h2 h3
    obtain ⟨hq, he⟩ := L i h2 h3
    have key : ∀ q, q ≤ a i → i < hc_it f q (i + 1) ∧ hc_it f q (i + 1) ≤ n := by
      intro q
      induction q with
      | zero => intro _; exact ⟨Nat.lt_succ_self i, h3⟩
      | succ q iq =>
        intro hqa
        obtain ⟨b1, b2⟩ := iq (by omega)
        have b3 := hq q (by omega)
        obtain ⟨⟨c1, c2⟩, -⟩ := ih (hc_it f q (i + 1)) (by omega) (by omega) b3
        rw [hc_it_s]
        exact ⟨by omega, c2⟩
    refine ⟨?_, key⟩
    rw [he]
    exact key (a i) (Nat.le_refl _)
theorem hc_lt {a f : Nat → Nat} {lo n : Nat} (L : hc_Lk a f lo n) {i : Nat} (h2 : lo ≤ i) (h3 : i < n) : i < f i ∧ f i ≤ n := (hc_lt' L _ i (Nat.le_refl _) h2 h3).1
theorem hc_ch {a f : Nat → Nat} {lo n : Nat} (L : hc_Lk a f lo n) {i : Nat} (h2 : lo ≤ i) (h3 : i < n) : ∀ q, q ≤ a i → i < hc_it f q (i + 1) ∧ hc_it f q (i + 1) ≤ n := (hc_lt' L _ i (Nat.le_refl _) h2 h3).2
theorem hc_tile (f : Nat → Nat) (x0 x : Nat) (h0 : x0 ≤ x) : ∀ m, x < hc_it f m x0 → ∃ q, q < m ∧ hc_it f q x0 ≤ x ∧ x < hc_it f (q + 1) x0
  | 0, h => absurd (show x < x0 from h) (by omega)
  | m + 1, h => by
    by_cases z : x < hc_it f m x0
    · obtain ⟨q, h1, h2, h3⟩ := hc_tile f x0 x h0 m z
      exact ⟨q, by omega, h2, h3⟩
    · exact ⟨m, by omega, by omega, h⟩
theorem hc_mono {a f : Nat → Nat} {lo n : Nat} (L : hc_Lk a f lo n) {x0 : Nat} (hl : lo ≤ x0) : ∀ m, (∀ q, q < m → hc_it f q x0 < n) → ∀ q, q ≤ m → x0 ≤ hc_it f q x0 ∧ hc_it f q x0 ≤ hc_it f m x0 := by
  intro m
  induction m with
  | zero =>
    intro _ q hq
    have e : q = 0 := by omega
    subst e
    exact ⟨Nat.le_refl _, Nat.le_refl _⟩
  | succ m ih =>
    intro H q hq
    have I := ih (fun q hq => H q (by omega))
    have b := I m (Nat.le_refl _)
    have c := hc_lt L (i := hc_it f m x0) (by omega) (H m (by omega))
    have e := hc_it_s f m x0
    rcases Nat.lt_or_ge m q with z | z
    · have e2 : q = m + 1 := by omega
      subst e2
      exact ⟨by omega, Nat.le_refl _⟩
    · have d := I q z
      exact ⟨by omega, by omega⟩
theorem hc_nest {a f : Nat → Nat} {lo n : Nat} (L : hc_Lk a f lo n) : ∀ d c x, n - c ≤ d → lo ≤ c → c < n → c ≤ x → x < f c → f x ≤ f c := by
  intro d
  induction d with
  | zero => intro c x h1 h2 h3; omega
  | succ d ih =>
    intro c x h1 h2 h3 h4 h5
    by_cases z : c = x
    · subst z; exact Nat.le_refl _
    · obtain ⟨hq, he⟩ := L c h2 h3
      have h5' : x < hc_it f (a c) (c + 1) := by rw [← he]; exact h5
      obtain ⟨q, q1, q2, q3⟩ := hc_tile f (c + 1) x (by omega) (a c) h5'
      have y1 := hc_ch L h2 h3 q (by omega)
      have y2 := hq q q1
      rw [hc_it_s] at q3
      have r := ih (hc_it f q (c + 1)) x (by omega) (by omega) y2 q2 q3
      have s := (hc_mono L (x0 := c + 1) (by omega) (a c) hq (q + 1) (by omega)).2
      rw [hc_it_s] at s
      omega
def hc_Ch (a f : Nat → Nat) (t c : Nat) : Prop := ∃ q, q < a t ∧ c = hc_it f q (t + 1)
theorem hc_Ch_lt {a f : Nat → Nat} {lo n t c : Nat} (L : hc_Lk a f lo n) (h2 : lo ≤ t) (h3 : t < n) (h : hc_Ch a f t c) : t < c ∧ c < n ∧ c < f c ∧ f c ≤ f t := by
  obtain ⟨q, q1, rfl⟩ := h
  obtain ⟨hq, he⟩ := L t h2 h3
  have y1 := hc_ch L h2 h3 q (by omega)
  have y2 := hq q q1
  have y3 := hc_lt L (i := hc_it f q (t + 1)) (by omega) y2
  have s := (hc_mono L (x0 := t + 1) (by omega) (a t) hq (q + 1) (by omega)).2
  rw [hc_it_s] at s
  exact ⟨by omega, y2, y3.1, by omega⟩
theorem hc_uniq' {a f : Nat → Nat} {lo n t t' c : Nat} (L : hc_Lk a f lo n) (h2 : lo ≤ t) (h3 : t < n) (h3' : t' < n) (h : hc_Ch a f t c) (h' : hc_Ch a f t' c) (hlt : t < t') : False := by
  have i1 := hc_Ch_lt L h2 h3 h
  have i2 := hc_Ch_lt L (by omega) h3' h'
  obtain ⟨q, q1, rfl⟩ := h
  obtain ⟨hq, he⟩ := L t h2 h3
  obtain ⟨p, p1, p2, p3⟩ := hc_tile f (t + 1) t' (by omega) q i2.1
  have y1 := hc_ch L h2 h3 p (by omega)
  have y2 := hq p (by omega)
  rw [hc_it_s] at p3
  have r := hc_nest L _ (hc_it f p (t + 1)) t' (Nat.le_refl _) (by omega) y2 p2 p3
  have s := (hc_mono L (x0 := t + 1) (by omega) q (fun q' z => hq q' (by omega)) (p + 1) (by omega)).2
  rw [hc_it_s] at s
  omega
theorem hc_uniq {a f : Nat → Nat} {lo n t t' c : Nat} (L : hc_Lk a f lo n) (h2 : lo ≤ t) (h2' : lo ≤ t') (h3 : t < n) (h3' : t' < n) (h : hc_Ch a f t c) (h' : hc_Ch a f t' c) : t = t' := by
  rcases Nat.lt_trichotomy t t' with z | z | z
  · exact (hc_uniq' L h2 h3 h3' h h' z).elim
  · exact z
  · exact (hc_uniq' L h2' h3' h3 h' h z).elim
theorem hc_root {a f : Nat → Nat} {n t k : Nat} (L : hc_Lk a f 0 n) (hk : ∀ j, j < k → hc_it f j 0 < n) (h3 : t < n) (h : hc_Ch a f t (hc_it f k 0)) : False := by
  have i1 := hc_Ch_lt L (Nat.zero_le _) h3 h
  obtain ⟨p, p1, p2, p3⟩ := hc_tile f 0 t (Nat.zero_le _) k i1.1
  rw [hc_it_s] at p3
  have r := hc_nest L _ (hc_it f p 0) t (Nat.le_refl _) (Nat.zero_le _) (hk p p1) p2 p3
  have s := (hc_mono L (x0 := 0) (Nat.zero_le _) k hk (p + 1) (by omega)).2
  rw [hc_it_s] at s
  omega
/-- the number of roots is fixed -/
theorem hc_cnt {f : Nat → Nat} {n c e : Nat} (h1 : hc_it f c 0 = n) (h2 : ∀ k, k < c → hc_it f k 0 < n) (h3 : hc_it f e 0 = n) (h4 : ∀ k, k < e → hc_it f k 0 < n) : c = e := by
  rcases Nat.lt_trichotomy c e with z | z | z
  · have := h4 c z; omega
  · exact z
  · have := h2 e z; omega
theorem hc_it_congr {a f g : Nat → Nat} {lo n : Nat} (L : hc_Lk a f lo n) (hg : ∀ x, lo ≤ x → x < n → g x = f x) {x0 : Nat} (hl : lo ≤ x0) : ∀ m, (∀ q, q < m → hc_it f q x0 < n) → hc_it g m x0 = hc_it f m x0
  | 0, _ => rfl
  | m + 1, H => by
    have e := hc_it_congr L hg hl m (fun q hq => H q (by omega))
    have b := (hc_mono L hl m (fun q hq => H q (by omega)) m (Nat.le_refl _)).1
    rw [hc_it_s, hc_it_s, e]
    exact hg _ (by omega) (H m (by omega))
/-- one more token in front -/
theorem hc_Lk_step {a f : Nat → Nat} {t n e : Nat} (L : hc_Lk a f (t + 1) n) (hq : ∀ q, q < a t → hc_it f q (t + 1) < n) (he : e = hc_it f (a t) (t + 1)) : hc_Lk a (fun x => if x = t then e else f x) t n := by
  have cg : ∀ x, t + 1 ≤ x → x < n → (fun x => if x = t then e else f x) x = f x := fun x h _ => if_neg (by omega)
  intro i h1 h2
  rcases Nat.lt_or_ge t i with z | z
  · obtain ⟨p1, p2⟩ := L i z h2
    have c := fun m (hm : m ≤ a i) => hc_it_congr L cg (x0 := i + 1) (by omega) m (fun q hq => p1 q (by omega))
    refine ⟨fun q hq => ?_, ?_⟩
    · rw [c q (by omega)]; exact p1 q hq
    · rw [c (a i) (Nat.le_refl _), cg i z h2]; exact p2
  · have e1 : i = t := by omega
    subst e1
    have c := fun m (hm : m ≤ a i) => hc_it_congr L cg (x0 := i + 1) (by omega) m (fun q hq' => hq q (by omega))
    refine ⟨fun q hq' => ?_, ?_⟩
    · rw [c q (by omega)]; exact hq q hq'
    · rw [c (a i) (Nat.le_refl _)]
      show (if i = i then e else f i) = _
      rw [if_pos rfl]; exact he
