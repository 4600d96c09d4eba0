/-! X's parse: the small methods -/
def xo_r (w f : Nat) (A A' : Nat → Int32) : Prop := ∀ y, (y < f * w ∨ f * w + w ≤ y) → A' y = A y
theorem xo_rr {w f : Nat} {A : Nat → Int32} : xo_r w f A A := fun _ _ => rfl
theorem xo_rt {w f : Nat} {A B C : Nat → Int32} (h : xo_r w f A B) (h' : xo_r w f B C) : xo_r w f A C := fun y hy => (h' y hy).trans (h y hy)
theorem xo_ru {w f k : Nat} {A : Nat → Int32} {v : Int32} (hk : k < w) : xo_r w f A (upd A (f * w + k) v) := fun y hy => if_neg (by omega)
theorem ba_if {α : Type} {P Q : Prop} {i1 : Decidable P} {i2 : Decidable Q} {a b : α} (h : P ↔ Q) : @ite α P i1 a b = @ite α Q i2 a b := by
  rcases Classical.em P with z | z
  · rw [if_pos z, if_pos (h.mp z)]
  · rw [if_neg z, if_neg (fun y => z (h.mpr y))]
theorem ba_s {a : Nat} : nI a + (-1) = nI a - 1 := by rw [Int32.sub_eq_add_neg]
section
variable {f_built f_productionCount f_depth : Int32} {a_ruleOf a_marked a_symbolCount a_symbols a_roles a_derives a_first a_follow a_textLength a_kindAt a_valueAt a_failsAt a_expectedAt a_roleAt a_scopeAt a_openProduction a_openNext a_openStart a_targetBefore : Nat → Int32} {G : gm_G}
theorem xp_cm2 {f : Nat} (hf : f < 4) (post : SX → Prop) (hP : ∀ RO SC, (∀ x, x < 20 → RO (f * 20 + x) = 0 ∧ SC (f * 20 + x) = -1) → xo_r 20 f a_roleAt RO → xo_r 20 f a_scopeAt SC → post (f_built, f_productionCount, f_depth, a_ruleOf, a_marked, a_symbolCount, a_symbols, a_roles, a_derives, a_first, a_follow, a_textLength, a_kindAt, a_valueAt, a_failsAt, a_expectedAt, RO, SC, a_openProduction, a_openNext, a_openStart, a_targetBefore)) :
    ∀ d k RO SC, k + d = 20 → (∀ x, x < k → RO (f * 20 + x) = 0 ∧ SC (f * 20 + x) = -1) → xo_r 20 f a_roleAt RO → xo_r 20 f a_scopeAt SC → wX_clearMarks_2 post (nI f) f_built f_productionCount f_depth (d + 1) (nI k) a_ruleOf a_marked a_symbolCount a_symbols a_roles a_derives a_first a_follow a_textLength a_kindAt a_valueAt a_failsAt a_expectedAt RO SC a_openProduction a_openNext a_openStart a_targetBefore := by
  intro d
  induction d with
  | zero =>
    intro k RO SC hk h1 h2 h3
    rw [wX_clearMarks_2]
    dsimp only
    exact br_t (nI_le (a := 20) (by omega) (by omega)) (hP RO SC (fun x hx => h1 x (by omega)) h2 h3)
  | succ d ih =>
    intro k RO SC hk h1 h2 h3
    have c1 : (nI (f * 20 + k)).toNatClampNeg = f * 20 + k := nI_clamp (by omega)
    have i1 : vp_in (nI (f * 20 + k)) 80 := vp_in_nI (by omega) (by omega)
    rw [wX_clearMarks_2]
    dsimp only
    rw [ba_x20, c1]
    refine br_f (nI_ge (b := 20) (by omega) (by omega)) ⟨i1, nm_e ⟨i1, nm_e (nm_r (nI_1 k) (ih (k + 1) _ _ (by omega) (fun x hx => ?_) (xo_rt h2 (xo_ru (by omega))) (xo_rt h3 (xo_ru (by omega)))))⟩⟩
    rcases Nat.lt_or_ge x k with z | z
    · rw [ba_up, ba_up, if_neg (by omega), if_neg (by omega)]
      exact h1 x z
    · have e : x = k := by omega
      subst e
      rw [ba_up, ba_up, if_pos rfl, if_pos rfl]
      exact ⟨rfl, rfl⟩
theorem xp_cm {f : Nat} (hf : f < 4) (post : SX → Prop) (hP : ∀ RO SC, (∀ x, x < 20 → RO (f * 20 + x) = 0 ∧ SC (f * 20 + x) = -1) → xo_r 20 f a_roleAt RO → xo_r 20 f a_scopeAt SC → post (f_built, f_productionCount, f_depth, a_ruleOf, a_marked, a_symbolCount, a_symbols, a_roles, a_derives, a_first, a_follow, a_textLength, a_kindAt, a_valueAt, a_failsAt, a_expectedAt, RO, SC, a_openProduction, a_openNext, a_openStart, a_targetBefore)) : wpX_clearMarks post (f_built, f_productionCount, f_depth, a_ruleOf, a_marked, a_symbolCount, a_symbols, a_roles, a_derives, a_first, a_follow, a_textLength, a_kindAt, a_valueAt, a_failsAt, a_expectedAt, a_roleAt, a_scopeAt, a_openProduction, a_openNext, a_openStart, a_targetBefore) (nI f) :=
  ⟨20 + 1, xp_cm2 hf post hP 20 0 a_roleAt a_scopeAt (by omega) (fun x hx => by omega) xo_rr xo_rr⟩
theorem xp_ce2 {f : Nat} (hf : f < 4) (post : SX → Prop) (hP : ∀ EX, (∀ x, x < 21 → EX (f * 21 + x) = 0) → xo_r 21 f a_expectedAt EX → post (f_built, f_productionCount, f_depth, a_ruleOf, a_marked, a_symbolCount, a_symbols, a_roles, a_derives, a_first, a_follow, a_textLength, a_kindAt, a_valueAt, a_failsAt, EX, a_roleAt, a_scopeAt, a_openProduction, a_openNext, a_openStart, a_targetBefore)) :
    ∀ d k EX, k + d = 21 → (∀ x, x < k → EX (f * 21 + x) = 0) → xo_r 21 f a_expectedAt EX → wX_clearExpected_2 post (nI f) f_built f_productionCount f_depth (d + 1) (nI k) a_ruleOf a_marked a_symbolCount a_symbols a_roles a_derives a_first a_follow a_textLength a_kindAt a_valueAt a_failsAt EX a_roleAt a_scopeAt a_openProduction a_openNext a_openStart a_targetBefore := by
  intro d
  induction d with
  | zero =>
    intro k EX hk h1 h2
    rw [wX_clearExpected_2]
    dsimp only
    exact br_t (nI_le (a := 21) (by omega) (by omega)) (hP EX (fun x hx => h1 x (by omega)) h2)
  | succ d ih =>
    intro k EX hk h1 h2
    have c1 : (nI (f * 21 + k)).toNatClampNeg = f * 21 + k := nI_clamp (by omega)
    have i1 : vp_in (nI (f * 21 + k)) 84 := vp_in_nI (by omega) (by omega)
    rw [wX_clearExpected_2]
    dsimp only
    rw [ba_x21, c1]
    refine br_f (nI_ge (b := 21) (by omega) (by omega)) ⟨i1, nm_e (nm_r (nI_1 k) (ih (k + 1) _ (by omega) (fun x hx => ?_) (xo_rt h2 (xo_ru (by omega)))))⟩
    rcases Nat.lt_or_ge x k with z | z
    · rw [ba_up, if_neg (by omega)]
      exact h1 x z
    · have e : x = k := by omega
      subst e
      rw [ba_up, if_pos rfl]
theorem xp_ce {f : Nat} (hf : f < 4) (post : SX → Prop) (hP : ∀ EX, (∀ x, x < 21 → EX (f * 21 + x) = 0) → xo_r 21 f a_expectedAt EX → post (f_built, f_productionCount, f_depth, a_ruleOf, a_marked, a_symbolCount, a_symbols, a_roles, a_derives, a_first, a_follow, a_textLength, a_kindAt, a_valueAt, a_failsAt, EX, a_roleAt, a_scopeAt, a_openProduction, a_openNext, a_openStart, a_targetBefore)) : wpX_clearExpected post (f_built, f_productionCount, f_depth, a_ruleOf, a_marked, a_symbolCount, a_symbols, a_roles, a_derives, a_first, a_follow, a_textLength, a_kindAt, a_valueAt, a_failsAt, a_expectedAt, a_roleAt, a_scopeAt, a_openProduction, a_openNext, a_openStart, a_targetBefore) (nI f) :=
  ⟨21 + 1, xp_ce2 hf post hP 21 0 a_expectedAt (by omega) (fun x hx => by omega) xo_rr⟩
theorem xp_op {d p i : Nat} (hd : d < 121) (he : f_depth = nI d) (post : SX → Prop) (hP : post (f_built, f_productionCount, nI (d + 1), a_ruleOf, a_marked, a_symbolCount, a_symbols, a_roles, a_derives, a_first, a_follow, a_textLength, a_kindAt, a_valueAt, a_failsAt, a_expectedAt, a_roleAt, a_scopeAt, upd a_openProduction d (nI p), upd a_openNext d 0, upd a_openStart d (nI i), a_targetBefore)) : wpX_open post (f_built, f_productionCount, f_depth, a_ruleOf, a_marked, a_symbolCount, a_symbols, a_roles, a_derives, a_first, a_follow, a_textLength, a_kindAt, a_valueAt, a_failsAt, a_expectedAt, a_roleAt, a_scopeAt, a_openProduction, a_openNext, a_openStart, a_targetBefore) (nI p) (nI i) := by
  subst he
  have c1 : (nI d).toNatClampNeg = d := nI_clamp (by omega)
  have i1 : vp_in (nI d) 121 := vp_in_nI hd (by omega)
  unfold wpX_open
  dsimp only
  rw [c1]
  exact br_t (nI_lt (b := 121) hd (by omega)) ⟨i1, nm_e ⟨i1, nm_e ⟨i1, nm_e (nm_r (nI_1 d) hP)⟩⟩⟩
def xp_a (P X S : Nat → Nat) (d : Nat) (OP ON OS : Nat → Int32) : Prop := ∀ a, a < d → OP a = nI (P a) ∧ ON a = nI (X a) ∧ OS a = nI (S a)
theorem xp_fo11e (post : Int32 → Prop) {x1 : Int32} (hb : bt x1 10 = false) (h : post x1) (n : Nat) (x2 : Int32) : wX_firstOfOpen_11 post f_built f_productionCount f_depth a_ruleOf a_marked a_symbolCount a_symbols a_roles a_derives a_first a_follow a_textLength a_kindAt a_valueAt a_failsAt a_expectedAt a_roleAt a_scopeAt a_openProduction a_openNext a_openStart a_targetBefore (n + 1) x1 x2 := by
  rw [wX_firstOfOpen_11]
  dsimp only
  exact br_c (fun _ => h) (fun _ => br_t (ba_t1024.mpr hb) h)
theorem xp_fo11 (hG : gm_ok G) (hx : xg_ok G f_productionCount a_ruleOf a_marked a_symbolCount a_symbols a_roles) (hB : ∀ n, n < 6 → gm_ms (a_first n) (fun t => t ≤ 10 ∧ gm_FU G t n)) {P X S : Nat → Nat} {d : Nat} (hd : d ≤ 121) (ho : st_ok G P X d) (ha : xp_a P X S d a_openProduction a_openNext a_openStart) (post : Int32 → Prop) :
    ∀ a x1, a ≤ d → bt x1 10 = true → (∀ r, gm_ms r (fun t => (t ≠ 10 ∧ bt x1 t = true) ∨ st_q G P X a t) → post r) → wX_firstOfOpen_11 post f_built f_productionCount f_depth a_ruleOf a_marked a_symbolCount a_symbols a_roles a_derives a_first a_follow a_textLength a_kindAt a_valueAt a_failsAt a_expectedAt a_roleAt a_scopeAt a_openProduction a_openNext a_openStart a_targetBefore (a + 1) x1 (nI a - 1) := by
  intro a
  induction a with
  | zero =>
    intro x1 h1 h2 hP
    rw [wX_firstOfOpen_11]
    dsimp only
    refine br_t (by decide) (hP x1 (fun t ht => ?_))
    dsimp only [st_q]
    rcases Classical.em (t = 10) with e | e
    · subst e; simp [h2]
    · simp [e]
  | succ a ih =>
    intro x1 h1 h2 hP
    obtain ⟨v, l, _⟩ := ho.2 a (by omega)
    obtain ⟨e1, e2, e3⟩ := ha a (by omega)
    have c1 : (nI a).toNatClampNeg = a := nI_clamp (by omega)
    have i1 : vp_in (nI a) 121 := vp_in_nI (by omega) (by omega)
    rw [wX_firstOfOpen_11]
    dsimp only
    rw [nI_pred, c1, e1, e2]
    refine br_f (nI_pos (by omega)) (br_f (by rw [ba_t1024, h2]; decide) ⟨i1, i1, xb_fr hG hx hB v l _ (fun r hr => nm_e (nm_r ba_s ?_))⟩)
    have hr' : ∀ t, t < 32 → (bt r t = true ↔ gm_fq G t (P a) (X a) ∨ (t = 10 ∧ gm_uq G (P a) (X a))) := fun t ht => (hr t ht).trans gm_xFU
    rcases Classical.em (gm_uq G (P a) (X a)) with q | q
    · refine ih _ (by omega) ?_ (fun r' hr2 => hP r' (fun t ht => ?_))
      · rw [b_or, (hr' 10 (by omega)).mpr (Or.inr ⟨rfl, q⟩)]; simp
      · rw [hr2 t ht]
        dsimp only [st_q]
        rw [b_or, b_and, ba_n1025 t ht, Bool.or_eq_true, Bool.and_eq_true, hr' t ht]
        rcases Classical.em (t = 10) with e | e
        · subst e
          simp only [ne_eq, not_true, false_and, false_or, q, true_and]
          exact ⟨Or.inr, fun h => h.elim (fun z => absurd z.1 (by omega)) id⟩
        · simp only [ne_eq, e, not_false_eq_true, decide_true, and_true, true_and, q, false_and, or_false]
          exact ⟨fun h => h.elim (fun z => z.elim Or.inl (fun y => Or.inr (Or.inl y))) (fun z => Or.inr (Or.inr z)), fun h => h.elim (fun z => Or.inl (Or.inl z)) (fun z => z.elim (fun y => Or.inl (Or.inr y)) Or.inr)⟩
    · have q0 : bt r 10 = false := by
        cases hh : bt r 10
        · rfl
        · rcases (hr' 10 (by omega)).mp hh with h | h
          · exact absurd h.1 (by omega)
          · exact absurd h.2 q
      refine xp_fo11e _ ?_ (hP _ (fun t ht => ?_)) a _
      · rw [b_or, b_and, ba_n1025 10 (by omega), q0]; simp
      · dsimp only [st_q]
        rw [b_or, b_and, ba_n1025 t ht, Bool.or_eq_true, Bool.and_eq_true, hr' t ht]
        rcases Classical.em (t = 10) with e | e
        · subst e; simp [q]
        · simp [e, q]
theorem xp_fo (hG : gm_ok G) (hx : xg_ok G f_productionCount a_ruleOf a_marked a_symbolCount a_symbols a_roles) (hB : ∀ n, n < 6 → gm_ms (a_first n) (fun t => t ≤ 10 ∧ gm_FU G t n)) {P X S : Nat → Nat} {d : Nat} (hd : d ≤ 121) (he : f_depth = nI d) (ho : st_ok G P X d) (ha : xp_a P X S d a_openProduction a_openNext a_openStart) (post : Int32 → Prop) (hP : ∀ r, gm_ms r (st_q G P X d) → post r) : wpX_firstOfOpen post (f_built, f_productionCount, f_depth, a_ruleOf, a_marked, a_symbolCount, a_symbols, a_roles, a_derives, a_first, a_follow, a_textLength, a_kindAt, a_valueAt, a_failsAt, a_expectedAt, a_roleAt, a_scopeAt, a_openProduction, a_openNext, a_openStart, a_targetBefore) := by
  unfold wpX_firstOfOpen
  dsimp only
  refine nm_r (by rw [he]) ⟨d + 1, xp_fo11 hG hx hB hd ho ha post d 1024 (Nat.le_refl _) (ba_1024 10 (by omega)) (fun r hr => hP r (fun t ht => ?_))⟩
  rw [hr t ht]
  dsimp only
  rw [ba_1024 t ht]
  simp
/-- what close writes -/
def xp_w (f s e : Nat) (A : Nat → Int32) : Nat → Int32 := fun y => if f * 20 + s ≤ y ∧ y < f * 20 + e ∧ A y = -1 then nI (32 * s + e) - 1 else A y
theorem xp_cl49 {f s e : Nat} (hf : f < 4) (hs : s ≤ e) (he : e ≤ 20) (post : SX → Prop) (hP : post (f_built, f_productionCount, f_depth, a_ruleOf, a_marked, a_symbolCount, a_symbols, a_roles, a_derives, a_first, a_follow, a_textLength, a_kindAt, a_valueAt, a_failsAt, a_expectedAt, a_roleAt, xp_w f s e a_scopeAt, a_openProduction, a_openNext, a_openStart, a_targetBefore)) :
    ∀ d k SC, s ≤ k → k + d = e → (∀ y, SC y = if f * 20 + s ≤ y ∧ y < f * 20 + k ∧ a_scopeAt y = -1 then nI (32 * s + e) - 1 else a_scopeAt y) → wX_close_49 post (nI f) (nI e) (nI s) f_built f_productionCount f_depth (d + 1) (nI k) a_ruleOf a_marked a_symbolCount a_symbols a_roles a_derives a_first a_follow a_textLength a_kindAt a_valueAt a_failsAt a_expectedAt a_roleAt SC a_openProduction a_openNext a_openStart a_targetBefore := by
  intro d
  induction d with
  | zero =>
    intro k SC h0 hk h1
    have e0 : k = e := by omega
    subst e0
    have e1 : SC = xp_w f s k a_scopeAt := funext h1
    rw [wX_close_49]
    dsimp only
    rw [e1]
    exact br_t (nI_le (by omega) (by omega)) hP
  | succ d ih =>
    intro k SC h0 hk h1
    have c1 : (nI (f * 20 + k)).toNatClampNeg = f * 20 + k := nI_clamp (by omega)
    have i1 : vp_in (nI (f * 20 + k)) 80 := vp_in_nI (by omega) (by omega)
    have hk1 : SC (f * 20 + k) = a_scopeAt (f * 20 + k) := by rw [h1]; exact if_neg (by omega)
    rw [wX_close_49]
    dsimp only
    rw [ba_x20, ba_32x]
    refine br_f (nI_ge (by omega) (by omega)) (nm_e ?_)
    rw [c1]
    refine ⟨i1, br_c (fun h => ⟨i1, nm_e (nm_r (nI_1 k) (ih (k + 1) _ (by omega) (by omega) (fun y => ?_)))⟩) (fun h => nm_r (nI_1 k) (ih (k + 1) _ (by omega) (by omega) (fun y => ?_)))⟩
    · rw [ba_up, h1]
      rcases Classical.em (y = f * 20 + k) with z | z
      · subst z
        rw [if_pos rfl, if_pos ⟨by omega, by omega, hk1 ▸ h⟩, Nat.mul_comm 32 s]
      · rw [if_neg z]
        have q : (f * 20 + s ≤ y ∧ y < f * 20 + k ∧ a_scopeAt y = -1) = (f * 20 + s ≤ y ∧ y < f * 20 + (k + 1) ∧ a_scopeAt y = -1) := propext ⟨fun a => ⟨a.1, by omega, a.2.2⟩, fun a => ⟨a.1, by omega, a.2.2⟩⟩
        exact ba_if (Iff.of_eq q)
    · rw [h1]
      rcases Classical.em (y = f * 20 + k) with z | z
      · subst z
        rw [if_neg (by omega), if_neg (fun a => h (hk1.trans a.2.2))]
      · have q : (f * 20 + s ≤ y ∧ y < f * 20 + k ∧ a_scopeAt y = -1) = (f * 20 + s ≤ y ∧ y < f * 20 + (k + 1) ∧ a_scopeAt y = -1) := propext ⟨fun a => ⟨a.1, by omega, a.2.2⟩, fun a => ⟨a.1, by omega, a.2.2⟩⟩
        exact ba_if (Iff.of_eq q)
theorem xp_cl (hG : gm_ok G) (hx : xg_ok G f_productionCount a_ruleOf a_marked a_symbolCount a_symbols a_roles) {f s e d p : Nat} (hf : f < 4) (hs : s ≤ e) (he : e ≤ 20) (hd : d < 121) (hp : gm_v G p) (e1 : f_depth = nI (d + 1)) (e2 : a_openProduction d = nI p) (e3 : a_openStart d = nI s) (post : SX → Prop) (hP1 : gm_k G p = 1 → post (f_built, f_productionCount, nI d, a_ruleOf, a_marked, a_symbolCount, a_symbols, a_roles, a_derives, a_first, a_follow, a_textLength, a_kindAt, a_valueAt, a_failsAt, a_expectedAt, a_roleAt, xp_w f s e a_scopeAt, a_openProduction, a_openNext, a_openStart, a_targetBefore)) (hP0 : ¬ gm_k G p = 1 → post (f_built, f_productionCount, nI d, a_ruleOf, a_marked, a_symbolCount, a_symbols, a_roles, a_derives, a_first, a_follow, a_textLength, a_kindAt, a_valueAt, a_failsAt, a_expectedAt, a_roleAt, a_scopeAt, a_openProduction, a_openNext, a_openStart, a_targetBefore)) : wpX_close post (f_built, f_productionCount, f_depth, a_ruleOf, a_marked, a_symbolCount, a_symbols, a_roles, a_derives, a_first, a_follow, a_textLength, a_kindAt, a_valueAt, a_failsAt, a_expectedAt, a_roleAt, a_scopeAt, a_openProduction, a_openNext, a_openStart, a_targetBefore) (nI f) (nI e) := by
  have h15 := gm_v14 hG hp
  have hk : gm_k G p ≤ 1 := by
    rcases hp with hp | rfl
    · exact (hG.2.1 p hp).2.2.1
    · rw [hG.2.2.2.2.2]; omega
  have c1 : (nI d).toNatClampNeg = d := nI_clamp (by omega)
  have c2 : (nI p).toNatClampNeg = p := nI_clamp (by omega)
  have i1 : vp_in (nI d) 121 := vp_in_nI (by omega) (by omega)
  subst e1
  unfold wpX_close
  dsimp only
  refine br_f (nI_ne0 (by omega) (by omega)) (nm_r (nI_pred d) ?_)
  rw [c1, e2, c2, (hx.2 p hp).2.1]
  refine ⟨i1, vp_in_nI h15 (by omega), pk_eq (gm_k G p) 0 (fun h => hP0 (by omega)) (fun h => ⟨i1, nm_r e3 ⟨e - s + 1, xp_cl49 hf hs he post (hP1 (by omega)) (e - s) s a_scopeAt (Nat.le_refl _) (by omega) (fun y => ?_)⟩⟩)⟩
  rw [if_neg (by omega)]
theorem xp_en3 (hG : gm_ok G) (hx : xg_ok G f_productionCount a_ruleOf a_marked a_symbolCount a_symbols a_roles) (hB : ∀ n, n < 6 → gm_ms (a_first n) (fun t => t ≤ 10 ∧ gm_FU G t n)) {d n c i : Nat} (hd : (∃ p, p < gm_n G ∧ gm_r G p = n ∧ gm_fq G c p 0) → d < 121) (he : f_depth = nI d) (hn : n < 6) (hc : c < 10) (post : SX → Prop) (hP1 : ∀ p, p < gm_n G → gm_r G p = n → gm_fq G c p 0 → post (f_built, f_productionCount, nI (d + 1), a_ruleOf, a_marked, a_symbolCount, a_symbols, a_roles, a_derives, a_first, a_follow, a_textLength, a_kindAt, a_valueAt, a_failsAt, a_expectedAt, a_roleAt, a_scopeAt, upd a_openProduction d (nI p), upd a_openNext d 0, upd a_openStart d (nI i), a_targetBefore)) (hP0 : (∀ p, p < gm_n G → gm_r G p = n → ¬ gm_fq G c p 0) → post (f_built, f_productionCount, f_depth, a_ruleOf, a_marked, a_symbolCount, a_symbols, a_roles, a_derives, a_first, a_follow, a_textLength, a_kindAt, a_valueAt, a_failsAt, a_expectedAt, a_roleAt, a_scopeAt, a_openProduction, a_openNext, a_openStart, a_targetBefore)) :
    ∀ e p, p + e = gm_n G → (∀ p', p' < p → gm_r G p' = n → ¬ gm_fq G c p' 0) → wX_enter_3 post (nI n) (nI c) (nI i) f_built f_productionCount f_depth a_ruleOf a_marked a_symbolCount a_symbols a_roles a_derives a_first a_follow a_textLength a_kindAt a_valueAt a_failsAt a_expectedAt a_roleAt a_scopeAt a_openProduction a_openNext a_openStart a_targetBefore (e + 1) (nI p) := by
  have h14 := hG.1
  have e0 := hx.1
  intro e
  induction e with
  | zero =>
    intro p hp hI
    rw [wX_enter_3]
    dsimp only
    exact br_t (by rw [e0]; exact nI_le (by omega) (by omega)) (hP0 (fun p' hp' => hI p' (by omega)))
  | succ e ih =>
    intro p hp hI
    have hv : gm_v G p := Or.inl (by omega)
    have h6 := gm_v6 hG hv
    have c1 : (nI p).toNatClampNeg = p := nI_clamp (by omega)
    have nx : (gm_r G p = n → ¬ gm_fq G c p 0) → wX_enter_3 post (nI n) (nI c) (nI i) f_built f_productionCount f_depth a_ruleOf a_marked a_symbolCount a_symbols a_roles a_derives a_first a_follow a_textLength a_kindAt a_valueAt a_failsAt a_expectedAt a_roleAt a_scopeAt a_openProduction a_openNext a_openStart a_targetBefore (e + 1) (nI (p + 1)) := fun h => ih (p + 1) (by omega) (fun p' hp' => by
      rcases Nat.lt_or_ge p' p with y | y
      · exact hI p' y
      · have e : p' = p := by omega
        subst e; exact h)
    rw [wX_enter_3]
    dsimp only
    rw [c1, (hx.2 p hv).1]
    refine br_f (by rw [e0]; exact nI_ge (by omega) (by omega)) ⟨vp_in_nI (by omega) (by omega), pk_eq (gm_r G p) n (fun h => ?_) (fun h => nm_r (nI_1 p) (nx (fun z => absurd z h)))⟩
    refine xb_fr (m := 0) hG hx hB hv (by omega) _ (fun r hr => ?_)
    have hb : bt r c = true ↔ gm_fq G c p 0 := ((hr c (by omega)).trans gm_xFU).trans ⟨fun z => z.elim id (fun y => by omega), Or.inl⟩
    rcases Classical.em (gm_fq G c p 0) with q | q
    · refine br_f (by rw [ba_t1 (by omega), hb.mpr q]; decide) ?_
      exact xp_op (hd ⟨p, by omega, h, q⟩) he _ (hP1 p (by omega) h q)
    · refine br_t ((ba_t1 (by omega)).mpr ?_) (nm_r (nI_1 p) (nx (fun _ => q)))
      cases hh : bt r c
      · rfl
      · exact absurd (hb.mp hh) q
theorem xp_en (hG : gm_ok G) (hx : xg_ok G f_productionCount a_ruleOf a_marked a_symbolCount a_symbols a_roles) (hB : ∀ n, n < 6 → gm_ms (a_first n) (fun t => t ≤ 10 ∧ gm_FU G t n)) {d n c i : Nat} (hd : (∃ p, p < gm_n G ∧ gm_r G p = n ∧ gm_fq G c p 0) → d < 121) (he : f_depth = nI d) (hn : n < 6) (hc : c < 10) (post : SX → Prop) (hP1 : ∀ p, p < gm_n G → gm_r G p = n → gm_fq G c p 0 → post (f_built, f_productionCount, nI (d + 1), a_ruleOf, a_marked, a_symbolCount, a_symbols, a_roles, a_derives, a_first, a_follow, a_textLength, a_kindAt, a_valueAt, a_failsAt, a_expectedAt, a_roleAt, a_scopeAt, upd a_openProduction d (nI p), upd a_openNext d 0, upd a_openStart d (nI i), a_targetBefore)) (hP0 : (∀ p, p < gm_n G → gm_r G p = n → ¬ gm_fq G c p 0) → post (f_built, f_productionCount, f_depth, a_ruleOf, a_marked, a_symbolCount, a_symbols, a_roles, a_derives, a_first, a_follow, a_textLength, a_kindAt, a_valueAt, a_failsAt, a_expectedAt, a_roleAt, a_scopeAt, a_openProduction, a_openNext, a_openStart, a_targetBefore)) : wpX_enter post (f_built, f_productionCount, f_depth, a_ruleOf, a_marked, a_symbolCount, a_symbols, a_roles, a_derives, a_first, a_follow, a_textLength, a_kindAt, a_valueAt, a_failsAt, a_expectedAt, a_roleAt, a_scopeAt, a_openProduction, a_openNext, a_openStart, a_targetBefore) (nI n) (nI c) (nI i) :=
  ⟨gm_n G + 1, xp_en3 hG hx hB hd he hn hc post hP1 hP0 (gm_n G) 0 (by omega) (fun p' h => by omega)⟩
end
