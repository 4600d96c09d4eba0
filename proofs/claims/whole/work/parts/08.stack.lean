/-! the stack of a predictive parse, pure -/
theorem dr_lt10s {G : gm_G} {R : Nat → Nat → Nat → Prop} {w : Nat → Nat} {p : Nat} (hR : ∀ n i j x, R n i j → i ≤ x → x < j → w x < 10) : ∀ c m i j x, dr_sg G R w p c m i j → i ≤ x → x < j → w x < 10
  | 0, _, _, _, _, h, a, b => by have h : _ = _ := h; omega
  | c + 1, m, i, j, x, ⟨k, h, h'⟩, a, b => by
    rcases Nat.lt_or_ge x k with z | z
    · rcases h with ⟨u, v, e⟩ | ⟨u, v⟩
      · have e2 : x = i := by omega
        subst e2; omega
      · exact hR _ _ _ x v a z
    · exact dr_lt10s hR c (m + 1) k j x h' z b
theorem dr_lt10L {G : gm_G} {w : Nat → Nat} : ∀ k n i j x, dr_L G w k n i j → i ≤ x → x < j → w x < 10
  | 0, _, _, _, _, h, _, _ => h.elim
  | k + 1, _, i, j, x, ⟨_, _, _, h⟩, a, b => dr_lt10s (dr_lt10L k) _ _ i j x h a b
theorem dr_lt10 {G : gm_G} {w : Nat → Nat} {n i j x : Nat} (h : dr_D G w n i j) (a : i ≤ x) (b : x < j) : w x < 10 := by
  obtain ⟨k, h⟩ := h
  exact dr_lt10L k n i j x h a b
theorem dr_S10 {G : gm_G} {w : Nat → Nat} {p c m i j x : Nat} (h : dr_S G w p c m i j) (a : i ≤ x) (b : x < j) : w x < 10 := dr_lt10s (fun _ _ _ _ z => dr_lt10 z) c m i j x h a b
theorem ll_dj {G : gm_G} (hG : gm_gd G) {t : Nat} : ∀ k n, fx_L (gm_fF G t) k n → gm_U G n → gm_W G t n → False
  | 0, _, h, _, _ => h
  | k + 1, n, ⟨h6, ht, p, hp, hr, m', a, b, c, d⟩, hu, hw => by
    have hfq : gm_fq G t p 0 := ⟨ht, m', a, b, c, d.elim Or.inl (fun q => Or.inr ⟨q.1, k, q.2⟩)⟩
    obtain ⟨_, q, hq, hrq, hqn⟩ := gm_Ue.mp hu
    have e : p = q := ll_un hG hp hq (by omega) (by omega) (Or.inl hfq) (Or.inr ⟨hqn, by rw [hrq]; exact hw⟩)
    subst e
    have hm := hqn m' (by omega) b
    rcases d with d | d
    · omega
    · have h16 := ((hG.1.2.1 p hp).2.2.2 m' b).1
      refine ll_dj hG k _ d.2 hm.2 (gm_We.mpr ⟨by omega, by omega, Or.inr ⟨p, m', hp, b, by omega, Or.inr ⟨fun x x1 x2 => hqn x (by omega) x2, by rw [hr]; exact hw⟩⟩⟩)
/-- what the open productions below d still lack, over [i, j) -/
def st_R (G : gm_G) (w : Nat → Nat) (P X : Nat → Nat) : Nat → Nat → Nat → Prop
  | 0, i, j => i = j
  | d + 1, i, j => ∃ k, dr_S G w (P d) (gm_l G (P d) - X d) (X d) i k ∧ st_R G w P X d k j
def st_ok (G : gm_G) (P X : Nat → Nat) (d : Nat) : Prop := P 0 = 14 ∧ ∀ a, a < d → gm_v G (P a) ∧ X a ≤ gm_l G (P a) ∧ (0 < a → P a < gm_n G ∧ 1 ≤ X (a - 1) ∧ gm_s G (P (a - 1)) (X (a - 1) - 1) = 10 + gm_r G (P a))
theorem st_cg {G : gm_G} {w : Nat → Nat} {P X P' X' : Nat → Nat} : ∀ d i j, (∀ a, a < d → P a = P' a ∧ X a = X' a) → st_R G w P X d i j → st_R G w P' X' d i j
  | 0, _, _, _, h => h
  | d + 1, i, j, e, ⟨k, a, b⟩ => ⟨k, by rw [← (e d (by omega)).1, ← (e d (by omega)).2]; exact a, st_cg d k j (fun a ha => e a (by omega)) b⟩
theorem st_le {G : gm_G} {w : Nat → Nat} {P X : Nat → Nat} : ∀ d i j, st_R G w P X d i j → i ≤ j
  | 0, _, _, h => Nat.le_of_eq h
  | d + 1, _, j, ⟨k, a, b⟩ => Nat.le_trans (dr_S_le a) (st_le d k j b)
theorem st_W {G : gm_G} (hG : gm_ok G) {w : Nat → Nat} {P X : Nat → Nat} {d : Nat} (ho : st_ok G P X d) {j : Nat} (hj : w j = 10) : ∀ a k, a < d → st_R G w P X a k j → gm_W G (w k) (gm_r G (P a))
  | 0, k, _, h => by
    have h : k = j := h
    subst h
    rw [hj, ho.1, hG.2.2.1]
    exact gm_We.mpr ⟨by omega, by omega, Or.inl ⟨rfl, rfl⟩⟩
  | a + 1, k, ha, ⟨q, x, y⟩ => by
    have f := st_W hG ho hj a q (by omega) y
    obtain ⟨v, l, _⟩ := ho.2 a (by omega)
    obtain ⟨_, _, h⟩ := ho.2 (a + 1) ha
    obtain ⟨_, h1, h2⟩ := h (by omega)
    rw [Nat.add_sub_cancel] at h1 h2
    refine ll_F hG (m := X a - 1) v (by omega) h2 ?_ f
    rw [show X a - 1 + 1 = X a from by omega]
    exact x
theorem st_w {G : gm_G} {w w' : Nat → Nat} {P X : Nat → Nat} : ∀ d i j, (∀ x, i ≤ x → x < j → w x = w' x) → st_R G w P X d i j → st_R G w' P X d i j
  | 0, _, _, _, h => h
  | d + 1, i, j, e, ⟨k, a, b⟩ => by
    have l1 := dr_S_le a
    have l2 := st_le d k j b
    exact ⟨k, dr_S_w (fun x x1 x2 => e x x1 (by omega)) a, st_w d k j (fun x x1 x2 => e x (by omega) x2) b⟩
/-- productive: the rest of the stack derives something from anywhere -/
theorem st_pr {G : gm_G} (hG : gm_gd G) {P X : Nat → Nat} : ∀ d, (∀ a, a < d → gm_v G (P a)) → ∀ (w : Nat → Nat) (i : Nat), ∃ w' j, (∀ x, x < i → w' x = w x) ∧ i ≤ j ∧ w' j = 10 ∧ st_R G w' P X d i j
  | 0, _, w, i => ⟨fun x => if x = i then 10 else w x, i, fun x hx => if_neg (by omega), Nat.le_refl _, if_pos rfl, rfl⟩
  | d + 1, hv, w, i => by
    obtain ⟨w1, k, a1, l1, s1⟩ := dr_prw hG (hv d (by omega)) (X d) w i
    obtain ⟨w2, j, a2, l2, e2, s2⟩ := st_pr hG d (fun a ha => hv a (by omega)) w1 k
    exact ⟨w2, j, fun x hx => (a2 x (by omega)).trans (a1 x hx), by omega, e2, k, dr_S_w (fun x _ x2 => (a2 x x2).symm) s1, s2⟩
/-- FIRST of the rest of the stack -/
def st_q (G : gm_G) (P X : Nat → Nat) : Nat → Nat → Prop
  | 0, t => t = 10
  | d + 1, t => gm_fq G t (P d) (X d) ∨ (gm_uq G (P d) (X d) ∧ st_q G P X d t)
theorem st_qw {G : gm_G} (hG : gm_gd G) {P X : Nat → Nat} {t : Nat} : ∀ d, (∀ a, a < d → gm_v G (P a) ∧ X a ≤ gm_l G (P a)) → st_q G P X d t → ∀ (w : Nat → Nat) (i : Nat), ∃ w' j, (∀ x, x < i → w' x = w x) ∧ w' i = t ∧ i ≤ j ∧ w' j = 10 ∧ st_R G w' P X d i j
  | 0, _, h, w, i => ⟨fun x => if x = i then 10 else w x, i, fun x hx => if_neg (by omega), by rw [show t = 10 from h]; exact if_pos rfl, Nat.le_refl _, if_pos rfl, rfl⟩
  | d + 1, hv, h, w, i => by
    rcases h with h | ⟨h, h'⟩
    · obtain ⟨w1, k, a1, b1, l1, s1⟩ := dr_fqw hG (hv d (by omega)).1 h w i
      obtain ⟨w2, j, a2, l2, e2, s2⟩ := st_pr (X := X) hG d (fun a ha => (hv a (by omega)).1) w1 k
      exact ⟨w2, j, fun x hx => (a2 x (by omega)).trans (a1 x hx), (a2 i l1).trans b1, by omega, e2, k, dr_S_w (fun x _ x2 => (a2 x x2).symm) s1, s2⟩
    · obtain ⟨w', j, a, b, c, e, f⟩ := st_qw hG d (fun a ha => hv a (by omega)) h' w i
      refine ⟨w', j, a, b, c, e, i, dr_uq i ?_, f⟩
      have := (hv d (by omega)).2
      rw [show X d + (gm_l G (P d) - X d) = gm_l G (P d) from by omega]
      exact h
theorem st_wq {G : gm_G} (hG : gm_ok G) {w : Nat → Nat} {P X : Nat → Nat} {j : Nat} (hj : w j = 10) : ∀ d i, (∀ a, a < d → X a ≤ gm_l G (P a)) → st_R G w P X d i j → st_q G P X d (w i)
  | 0, i, _, h => by rw [show i = j from h]; exact hj
  | d + 1, i, hv, ⟨k, a, b⟩ => by
    have l := dr_S_le a
    have hl := hv d (by omega)
    rcases Nat.lt_or_ge i k with z | z
    · exact Or.inl (dr_fq hG (by omega) a z)
    · have e : k = i := by omega
      subst e
      have q := dr_qu hG a
      rw [show X d + (gm_l G (P d) - X d) = gm_l G (P d) from by omega] at q
      exact Or.inr ⟨q, st_wq hG hj d k (fun a ha => hv a (by omega)) b⟩
/-! what may come, what is viable -/
def px_e (G : gm_G) (w : Nat → Nat) (k t : Nat) : Prop := ∃ w' j, (∀ x, x < k → w' x = w x) ∧ w' k = t ∧ k ≤ j ∧ w' j = 10 ∧ dr_D G w' 0 0 j
def st_I (G : gm_G) (w : Nat → Nat) (b i : Nat) (P X : Nat → Nat) (d : Nat) : Prop := ∀ w' j, (∀ x, x < b → w' x = w x) → i ≤ j → w' j = 10 → (dr_D G w' 0 0 j ↔ st_R G w' P X d i j)
def st_V (G : gm_G) (w : Nat → Nat) (b i : Nat) (P X : Nat → Nat) (d : Nat) : Prop := ∃ w' j, (∀ x, x < b → w' x = w x) ∧ i ≤ j ∧ w' j = 10 ∧ st_R G w' P X d i j
theorem st_mask {G : gm_G} (hG : gm_gd G) {w : Nat → Nat} {P X : Nat → Nat} {d i : Nat} (ho : st_ok G P X d) (hI : st_I G w i i P X d) (t : Nat) : st_q G P X d t ↔ px_e G w i t := by
  constructor
  · intro h
    obtain ⟨w', j, a, b, c, e, f⟩ := st_qw hG d (fun a ha => ⟨(ho.2 a ha).1, (ho.2 a ha).2.1⟩) h w i
    exact ⟨w', j, a, b, c, e, (hI w' j a c e).mpr f⟩
  · intro ⟨w', j, a, b, c, e, f⟩
    rw [← b]
    exact st_wq hG.1 e d i (fun a ha => (ho.2 a ha).2.1) ((hI w' j a c e).mp f)
theorem st_V1 {G : gm_G} {w : Nat → Nat} {P X : Nat → Nat} {d i : Nat} (hI : st_I G w i i P X d) (h : px_e G w i (w i)) : st_V G w (i + 1) i P X d := by
  obtain ⟨w', j, a, b, c, e, f⟩ := h
  refine ⟨w', j, fun x hx => ?_, c, e, (hI w' j a c e).mp f⟩
  rcases Nat.lt_or_ge x i with z | z
  · exact a x z
  · have e : x = i := by omega
    subst e; exact b
def ud (f : Nat → Nat) (k v : Nat) : Nat → Nat := fun a => if a = k then v else f a
theorem ud_s {f : Nat → Nat} {k v : Nat} : ud f k v k = v := if_pos rfl
theorem ud_n {f : Nat → Nat} {k v a : Nat} (h : a ≠ k) : ud f k v a = f a := if_neg h
section
variable {G : gm_G} {w : Nat → Nat} {P X : Nat → Nat} {d i b : Nat}
/-! close -/
theorem st_cR {w : Nat → Nat} {j : Nat} (h : X d = gm_l G (P d)) : st_R G w P X (d + 1) i j ↔ st_R G w P X d i j := by
  constructor
  · intro ⟨k, x, y⟩
    rw [h, Nat.sub_self] at x
    have x : i = k := x
    rw [x]; exact y
  · intro y
    exact ⟨i, by rw [h, Nat.sub_self]; exact rfl, y⟩
theorem st_cI (h : X d = gm_l G (P d)) (hI : st_I G w b i P X (d + 1)) : st_I G w b i P X d := fun w' j a c e => (hI w' j a c e).trans (st_cR h)
theorem st_cV (h : X d = gm_l G (P d)) (hV : st_V G w b i P X (d + 1)) : st_V G w b i P X d := by
  obtain ⟨w', j, a, c, e, f⟩ := hV
  exact ⟨w', j, a, c, e, (st_cR h).mp f⟩
theorem st_cO (ho : st_ok G P X (d + 1)) : st_ok G P X d := ⟨ho.1, fun a ha => ho.2 a (by omega)⟩
/-! a symbol of the top -/
theorem st_top {w : Nat → Nat} {j : Nat} (hx : X d < gm_l G (P d)) : st_R G w P X (d + 1) i j ↔ ∃ k, dr_sy (dr_D G w) w (gm_s G (P d) (X d)) i k ∧ st_R G w P (ud X d (X d + 1)) (d + 1) k j := by
  have e : gm_l G (P d) - X d = (gm_l G (P d) - (X d + 1)) + 1 := by omega
  constructor
  · intro ⟨k, x, y⟩
    rw [e] at x
    obtain ⟨q, x1, x2⟩ := x
    exact ⟨q, x1, k, by rw [ud_s]; exact x2, st_cg d k j (fun a ha => ⟨rfl, (ud_n (by omega)).symm⟩) y⟩
  · intro ⟨q, x1, k, x2, y⟩
    rw [ud_s] at x2
    exact ⟨k, by rw [e]; exact ⟨q, x1, x2⟩, st_cg d k j (fun a ha => ⟨rfl, ud_n (by omega)⟩) y⟩
theorem st_oS (ho : st_ok G P X (d + 1)) (hx : X d < gm_l G (P d)) : st_ok G P (ud X d (X d + 1)) (d + 1) := by
  refine ⟨ho.1, fun a ha => ?_⟩
  obtain ⟨h1, h2, h3⟩ := ho.2 a ha
  refine ⟨h1, ?_, fun h0 => ?_⟩
  · rcases Classical.em (a = d) with e | e
    · subst e; rw [ud_s]; omega
    · rw [ud_n e]; exact h2
  · obtain ⟨q1, q2, q3⟩ := h3 h0
    rw [ud_n (show a - 1 ≠ d by omega)]
    exact ⟨q1, q2, q3⟩
/-! a terminal -/
theorem st_tI (hV : st_V G w (i + 1) i P X (d + 1)) (hx : X d < gm_l G (P d)) (hs : gm_s G (P d) (X d) < 10) (hI : st_I G w (i + 1) i P X (d + 1)) : w i = gm_s G (P d) (X d) ∧ st_I G w (i + 1) (i + 1) P (ud X d (X d + 1)) (d + 1) := by
  have hw : w i = gm_s G (P d) (X d) := by
    obtain ⟨w', j, a, c, e, f⟩ := hV
    obtain ⟨k, x, _⟩ := (st_top hx).mp f
    rcases x with ⟨_, x, _⟩ | ⟨x, _⟩
    · rw [← a i (by omega)]; exact x
    · omega
  refine ⟨hw, fun w' j a c e => (hI w' j a (by omega) e).trans ((st_top hx).trans ?_)⟩
  constructor
  · intro ⟨k, x, y⟩
    rcases x with ⟨_, _, x⟩ | ⟨x, _⟩
    · rw [← x]; exact y
    · omega
  · intro y
    exact ⟨i + 1, Or.inl ⟨hs, by rw [a i (by omega)]; exact hw, rfl⟩, y⟩
/-! a rule that cannot begin with the token -/
theorem st_kR (hG : gm_ok G) {w : Nat → Nat} {j : Nat} (hx : X d < gm_l G (P d)) (hs : 10 ≤ gm_s G (P d) (X d)) (hn : ¬ gm_F G (w i) (gm_s G (P d) (X d) - 10)) (h : st_R G w P X (d + 1) i j) : gm_U G (gm_s G (P d) (X d) - 10) ∧ st_R G w P (ud X d (X d + 1)) (d + 1) i j := by
  obtain ⟨k, x, y⟩ := (st_top hx).mp h
  rcases x with ⟨x, _⟩ | ⟨_, x⟩
  · omega
  · have l := dr_D_le _ _ _ x
    rcases Nat.lt_or_ge i k with z | z
    · exact absurd (dr_F hG x z).2 hn
    · have e : k = i := by omega
      subst e
      exact ⟨dr_U hG x, y⟩
theorem st_kI (hG : gm_ok G) (hV : st_V G w (i + 1) i P X (d + 1)) (hx : X d < gm_l G (P d)) (hs : 10 ≤ gm_s G (P d) (X d)) (hn : ¬ gm_F G (w i) (gm_s G (P d) (X d) - 10)) (hI : st_I G w (i + 1) i P X (d + 1)) : gm_U G (gm_s G (P d) (X d) - 10) ∧ st_I G w (i + 1) i P (ud X d (X d + 1)) (d + 1) ∧ st_V G w (i + 1) i P (ud X d (X d + 1)) (d + 1) := by
  obtain ⟨w1, j1, a1, c1, e1, f1⟩ := hV
  have z1 := st_kR hG hx hs (by rw [a1 i (by omega)]; exact hn) f1
  refine ⟨z1.1, fun w' j a c e => (hI w' j a c e).trans ⟨fun f => (st_kR hG hx hs (by rw [a i (by omega)]; exact hn) f).2, fun f => (st_top hx).mpr ⟨i, Or.inr ⟨hs, dr_u i z1.1⟩, f⟩⟩, w1, j1, a1, c1, e1, z1.2⟩
/-! a rule that can: its production is opened -/
theorem st_eO (ho : st_ok G P X (d + 1)) (hx : X d < gm_l G (P d)) {p : Nat} (hp : p < gm_n G) (hr : gm_s G (P d) (X d) = 10 + gm_r G p) : st_ok G (ud P (d + 1) p) (ud (ud X d (X d + 1)) (d + 1) 0) (d + 2) := by
  have h := st_oS ho hx
  refine ⟨by rw [ud_n (by omega)]; exact h.1, fun a ha => ?_⟩
  rcases Classical.em (a = d + 1) with e | e
  · subst e
    rw [ud_s, ud_s]
    refine ⟨Or.inl hp, by omega, fun _ => ⟨hp, ?_, ?_⟩⟩
    · rw [ud_n (by omega), Nat.add_sub_cancel, ud_s]; omega
    · rw [ud_n (by omega), ud_n (by omega), Nat.add_sub_cancel, ud_s, Nat.add_sub_cancel]; exact hr
  · obtain ⟨h1, h2, h3⟩ := h.2 a (by omega)
    rw [ud_n e, ud_n e]
    refine ⟨h1, h2, fun h0 => ?_⟩
    rw [ud_n (show a - 1 ≠ d + 1 by omega), ud_n (show a - 1 ≠ d + 1 by omega)]
    exact h3 h0
theorem st_eR {w : Nat → Nat} {j : Nat} {p : Nat} : st_R G w (ud P (d + 1) p) (ud (ud X d (X d + 1)) (d + 1) 0) (d + 2) i j ↔ ∃ k, dr_S G w p (gm_l G p) 0 i k ∧ st_R G w P (ud X d (X d + 1)) (d + 1) k j := by
  constructor
  · intro ⟨k, x, y⟩
    rw [ud_s, ud_s] at x
    exact ⟨k, x, st_cg (d + 1) k j (fun a ha => ⟨ud_n (by omega), ud_n (by omega)⟩) y⟩
  · intro ⟨k, x, y⟩
    exact ⟨k, by rw [ud_s, ud_s]; exact x, st_cg (d + 1) k j (fun a ha => ⟨(ud_n (by omega)).symm, (ud_n (by omega)).symm⟩) y⟩
theorem st_eF (hG : gm_gd G) (ho : st_ok G P X (d + 1)) {w : Nat → Nat} {j : Nat} (hj : w j = 10) (hx : X d < gm_l G (P d)) {p : Nat} (hp : p < gm_n G) (hr : gm_s G (P d) (X d) = 10 + gm_r G p) (hf : gm_fq G (w i) p 0) {k : Nat} (h : dr_D G w (gm_r G p) i k) (h' : st_R G w P (ud X d (X d + 1)) (d + 1) k j) : dr_S G w p (gm_l G p) 0 i k := by
  obtain ⟨q, hq, hrq, hS⟩ := dr_D_to h
  have ho' := st_eO ho hx hp hr
  have hW : gm_W G (w k) (gm_r G p) := by
    have := st_W hG.1 ho' hj (d + 1) k (by omega) (st_cg (d + 1) k j (fun a ha => ⟨(ud_n (by omega)).symm, (ud_n (by omega)).symm⟩) h')
    rw [ud_s] at this
    exact this
  have P1 := ll_P hG.1 hS (by rw [hrq]; exact hW)
  have e : p = q := ll_un hG hp hq hrq.symm P1.2 (Or.inl hf) P1.1
  subst e
  exact hS
theorem st_eI (hG : gm_gd G) (ho : st_ok G P X (d + 1)) (hV : st_V G w (i + 1) i P X (d + 1)) (hx : X d < gm_l G (P d)) {p : Nat} (hp : p < gm_n G) (hr : gm_s G (P d) (X d) = 10 + gm_r G p) (hf : gm_fq G (w i) p 0) (hI : st_I G w (i + 1) i P X (d + 1)) : st_I G w (i + 1) i (ud P (d + 1) p) (ud (ud X d (X d + 1)) (d + 1) 0) (d + 2) ∧ st_V G w (i + 1) i (ud P (d + 1) p) (ud (ud X d (X d + 1)) (d + 1) 0) (d + 2) := by
  have key : ∀ w' j, (∀ x, x < i + 1 → w' x = w x) → w' j = 10 → (st_R G w' P X (d + 1) i j ↔ st_R G w' (ud P (d + 1) p) (ud (ud X d (X d + 1)) (d + 1) 0) (d + 2) i j) := by
    intro w' j a e
    rw [st_eR, st_top hx]
    constructor
    · intro ⟨k, x, y⟩
      rcases x with ⟨x, _⟩ | ⟨_, x⟩
      · omega
      · rw [show gm_s G (P d) (X d) - 10 = gm_r G p from by omega] at x
        exact ⟨k, st_eF hG ho e hx hp hr (by rw [a i (by omega)]; exact hf) x y, y⟩
    · intro ⟨k, x, y⟩
      exact ⟨k, Or.inr ⟨by omega, by rw [show gm_s G (P d) (X d) - 10 = gm_r G p from by omega]; exact dr_D_of hp x⟩, y⟩
  obtain ⟨w1, j1, a1, c1, e1, f1⟩ := hV
  exact ⟨fun w' j a c e => (hI w' j a c e).trans (key w' j a e), w1, j1, a1, c1, e1, (key w1 j1 a1 e1).mp f1⟩
/-! how deep, how long: levels of FIRST -/
def st_J (G : gm_G) (c R p x : Nat) : Prop := R = 6 ∨ gm_fs G (gm_U G) (fx_L (gm_fF G c) R) c p x
theorem st_JF {c R p x n : Nat} (hG : gm_gd G) (hv : gm_v G p) (hc : c < 10) (hx : x < gm_l G p) (hs : gm_s G p x = 10 + n) (hF : gm_F G c n) (hJ : st_J G c R p x) : fx_L (gm_fF G c) R n := by
  rcases hJ with rfl | hJ
  · exact gm_F6 hF
  · obtain ⟨_, h | ⟨_, h⟩ | ⟨_, h, h'⟩⟩ := gm_fs_e.mp hJ
    · omega
    · rw [show gm_s G p x - 10 = n from by omega] at h
      exact h
    · exfalso
      rw [show gm_s G p x - 10 = n from by omega] at h
      obtain ⟨k, hk⟩ := hF
      have h16 := (gm_vs hG.1 hv).2 x hx
      rcases hv with hv | rfl
      · exact ll_dj hG k n hk h (gm_We.mpr ⟨by omega, by omega, Or.inr ⟨p, x, hv, hx, hs, Or.inl ⟨hc, gm_fs_mo (fun _ z => z) (fun _ z => ⟨R, z⟩) h'⟩⟩⟩)
      · obtain ⟨m', a, b, _⟩ := h'
        have := hG.1.2.2.2.1
        omega
theorem st_Jk {c R p x n : Nat} (hc : c < 10) (hs : gm_s G p x = 10 + n) (hF : ¬ gm_F G c n) (hJ : st_J G c R p x) : st_J G c R p (x + 1) := by
  rcases hJ with rfl | hJ
  · exact Or.inl rfl
  · obtain ⟨_, h | ⟨_, h⟩ | ⟨_, h, h'⟩⟩ := gm_fs_e.mp hJ
    · omega
    · rw [show gm_s G p x - 10 = n from by omega] at h
      exact absurd ⟨R, h⟩ hF
    · exact Or.inr h'
theorem st_Je {c R p : Nat} (hG : gm_gd G) (hp : p < gm_n G) (hf : gm_fq G c p 0) (h : fx_L (gm_fF G c) R (gm_r G p)) : 1 ≤ R ∧ st_J G c (R - 1) p 0 := by
  cases R with
  | zero => exact h.elim
  | succ R =>
    obtain ⟨_, hc, q, hq, hr, hs⟩ := h
    have e : p = q := ll_un hG (t := c) hp hq hr.symm (by omega) (Or.inl hf) (Or.inl ⟨hc, gm_fs_mo (fun _ z => z) (fun _ z => ⟨R, z⟩) hs⟩)
    subst e
    exact ⟨by omega, Or.inr hs⟩
/-! how many steps are left -/
def st_m (G : gm_G) (P X : Nat → Nat) : Nat → Nat
  | 0 => 0
  | d + 1 => (gm_l G (P d) - X d + 1) + st_m G P X d
theorem st_m_cg {P' X' : Nat → Nat} : ∀ d, (∀ a, a < d → P a = P' a ∧ X a = X' a) → st_m G P X d = st_m G P' X' d
  | 0, _ => rfl
  | d + 1, e => by
    unfold st_m
    rw [(e d (by omega)).1, (e d (by omega)).2, st_m_cg d (fun a ha => e a (by omega))]
theorem st_m_le (hG : gm_ok G) : ∀ d, (∀ a, a < d → gm_v G (P a)) → st_m G P X d ≤ 5 * d
  | 0, _ => Nat.le_refl _
  | d + 1, h => by
    have a := st_m_le hG d (fun a ha => h a (by omega))
    have b := (gm_vs hG (h d (by omega))).1
    unfold st_m
    omega
end
