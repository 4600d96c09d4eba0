/-! X's build, second half: FIRST, FOLLOW, conflicts -/
def gm_xq (G : gm_G) (B : Nat → Nat → Prop) (p m t : Nat) : Prop := (t < 10 ∧ gm_fs G (B 10) (B t) t p m) ∨ (t = 10 ∧ gm_pn G (B 10) p m (gm_l G p))
theorem gm_fs_e {G : gm_G} {E P : Nat → Prop} {t p m : Nat} : gm_fs G E P t p m ↔ m < gm_l G p ∧ (gm_s G p m = t ∨ (10 ≤ gm_s G p m ∧ P (gm_s G p m - 10)) ∨ (10 ≤ gm_s G p m ∧ E (gm_s G p m - 10) ∧ gm_fs G E P t p (m + 1))) := by
  constructor
  · intro ⟨m', a, b, c, d⟩
    refine ⟨by omega, ?_⟩
    rcases Nat.lt_or_ge m m' with z | z
    · have q := c m (Nat.le_refl _) z
      exact Or.inr (Or.inr ⟨q.1, q.2, m', z, b, fun k k1 k2 => c k (by omega) k2, d⟩)
    · have e : m' = m := by omega
      subst e
      exact d.elim Or.inl (fun q => Or.inr (Or.inl q))
  · intro ⟨a, b⟩
    rcases b with b | b | ⟨b, c, m', d, e, f, g⟩
    · exact ⟨m, Nat.le_refl _, a, fun k k1 k2 => by omega, Or.inl b⟩
    · exact ⟨m, Nat.le_refl _, a, fun k k1 k2 => by omega, Or.inr b⟩
    · refine ⟨m', by omega, e, fun k k1 k2 => ?_, g⟩
      rcases Nat.lt_or_ge m k with z | z
      · exact f k z k2
      · have q : k = m := by omega
        subst q; exact ⟨b, c⟩
theorem gm_pn_e {G : gm_G} {E : Nat → Prop} {p m l : Nat} (h : m < l) : gm_pn G E p m l ↔ 10 ≤ gm_s G p m ∧ E (gm_s G p m - 10) ∧ gm_pn G E p (m + 1) l := by
  constructor
  · intro a
    have q := a m (Nat.le_refl _) h
    exact ⟨q.1, q.2, fun k k1 k2 => a k (by omega) k2⟩
  · intro ⟨a, b, c⟩ k k1 k2
    rcases Nat.lt_or_ge m k with z | z
    · exact c k z k2
    · have q : k = m := by omega
      subst q; exact ⟨a, b⟩
theorem gm_xq0 {G : gm_G} {B : Nat → Nat → Prop} {p m t : Nat} (h : gm_l G p ≤ m) : gm_xq G B p m t ↔ t = 10 := by
  constructor
  · rintro (⟨_, m', a, b, _⟩ | ⟨a, _⟩)
    · omega
    · exact a
  · intro a
    exact Or.inr ⟨a, fun k k1 k2 => by omega⟩
theorem gm_xqt {G : gm_G} {B : Nat → Nat → Prop} {p m t : Nat} (h : m < gm_l G p) (hs : gm_s G p m < 10) : gm_xq G B p m t ↔ t = gm_s G p m := by
  unfold gm_xq
  rw [gm_fs_e, gm_pn_e h]
  constructor
  · rintro (⟨a, b, c | c | c⟩ | ⟨a, b, _⟩) <;> omega
  · intro a
    exact Or.inl ⟨by omega, h, Or.inl a.symm⟩
theorem gm_xqr {G : gm_G} {B : Nat → Nat → Prop} {p m t : Nat} (h : m < gm_l G p) (hs : 10 ≤ gm_s G p m) : gm_xq G B p m t ↔ (t < 10 ∧ B t (gm_s G p m - 10)) ∨ (B 10 (gm_s G p m - 10) ∧ gm_xq G B p (m + 1) t) := by
  unfold gm_xq
  rw [gm_fs_e, gm_pn_e h]
  constructor
  · rintro (⟨a, b, c | c | c⟩ | ⟨a, b, c, d⟩)
    · omega
    · exact Or.inl ⟨a, c.2⟩
    · exact Or.inr ⟨c.2.1, Or.inl ⟨a, c.2.2⟩⟩
    · exact Or.inr ⟨c, Or.inr ⟨a, d⟩⟩
  · rintro (⟨a, b⟩ | ⟨a, ⟨b, c⟩ | ⟨b, c⟩⟩)
    · exact Or.inl ⟨a, h, Or.inr (Or.inl ⟨hs, b⟩)⟩
    · exact Or.inl ⟨b, h, Or.inr (Or.inr ⟨hs, a, c⟩)⟩
    · exact Or.inr ⟨b, hs, a, c⟩
/-- a mask holds a set of bits -/
def gm_ms (x : Int32) (P : Nat → Prop) : Prop := ∀ t, t < 32 → (bt x t = true ↔ P t)
theorem gm_ms_eq {x y : Int32} {P : Nat → Prop} (h : gm_ms x P) (h' : gm_ms y P) : x = y := by
  apply b_ext
  intro i hi
  have a := (h i hi).trans (h' i hi).symm
  cases hx : bt x i <;> cases hy : bt y i <;> simp_all
theorem gm_ms_if {x : Int32} {P Q : Nat → Prop} (h : gm_ms x P) (e : ∀ t, t < 32 → (P t ↔ Q t)) : gm_ms x Q := fun t ht => (h t ht).trans (e t ht)
section
variable {f_built f_productionCount f_depth : Int32} {a_ruleOf a_marked a_symbolCount a_symbols a_roles a_derives a_first a_follow a_textLength a_kindAt a_valueAt a_failsAt a_expectedAt a_roleAt a_scopeAt a_openProduction a_openNext a_openStart a_targetBefore : Nat → Int32} {G : gm_G}
theorem xb_fr7e {p : Nat} (hp : p < 15) (post : Int32 → Prop) {x3 : Int32} (hb : bt x3 10 = false) (h : post x3) (n : Nat) (k : Int32) : wX_firstOfRest_7 post (nI p) f_built f_productionCount f_depth a_ruleOf a_marked a_symbolCount a_symbols a_roles a_derives a_first a_follow a_textLength a_kindAt a_valueAt a_failsAt a_expectedAt a_roleAt a_scopeAt a_openProduction a_openNext a_openStart a_targetBefore (n + 1) x3 k := by
  rw [wX_firstOfRest_7]
  dsimp only
  exact ⟨vp_in_nI hp (by omega), br_c (fun _ => h) (fun _ => br_t (ba_t1024.mpr hb) h)⟩
theorem xb_fr7 (hG : gm_ok G) (hx : xg_ok G f_productionCount a_ruleOf a_marked a_symbolCount a_symbols a_roles) {B : Nat → Nat → Prop} (hB : ∀ n, n < 6 → gm_ms (a_first n) (fun t => t ≤ 10 ∧ B t n)) {p : Nat} (hp : gm_v G p) (post : Int32 → Prop) :
    ∀ d k x3, k + d = gm_l G p → bt x3 10 = true → (∀ r, gm_ms r (fun t => (t ≠ 10 ∧ bt x3 t = true) ∨ gm_xq G B p k t) → post r) → wX_firstOfRest_7 post (nI p) f_built f_productionCount f_depth a_ruleOf a_marked a_symbolCount a_symbols a_roles a_derives a_first a_follow a_textLength a_kindAt a_valueAt a_failsAt a_expectedAt a_roleAt a_scopeAt a_openProduction a_openNext a_openStart a_targetBefore (d + 1) x3 (nI k) := by
  have hl := gm_vs hG hp
  have h15 := gm_v14 hG hp
  obtain ⟨_, _, e3, e4⟩ := hx.2 p hp
  have i1 : vp_in (nI p) 15 := vp_in_nI h15 (by omega)
  have c1 : (nI p).toNatClampNeg = p := nI_clamp (by omega)
  intro d
  induction d with
  | zero =>
    intro k x3 hk hb hP
    rw [wX_firstOfRest_7]
    dsimp only
    rw [c1, e3]
    refine ⟨i1, br_t (nI_le (by omega) (by omega)) (hP x3 (fun t ht => ?_))⟩
    dsimp only
    rw [gm_xq0 (by omega)]
    rcases Classical.em (t = 10) with e | e
    · subst e; simp [hb]
    · simp [e]
  | succ d ih =>
    intro k x3 hk hb hP
    have hs := hl.2 k (by omega)
    have hk2 : k < gm_l G p := by omega
    have c2 : (nI (p * 4 + k)).toNatClampNeg = p * 4 + k := nI_clamp (by omega)
    have i2 : vp_in (nI (p * 4 + k)) 60 := vp_in_nI (by omega) (by omega)
    rw [wX_firstOfRest_7]
    dsimp only
    rw [c1, e3, ba_x4, c2, (e4 k (by omega)).1]
    refine ⟨i1, br_f (nI_ge (by omega) (by omega)) (br_f (by rw [ba_t1024, hb]; decide) ⟨i2, nm_e ?_⟩)⟩
    rcases Nat.lt_or_ge (gm_s G p k) 10 with z | z
    · refine br_f (nI_ge (b := 10) z (by omega)) (nm_e (nm_e (xb_fr7e h15 _ ?_ (hP _ (fun t ht => ?_)) d _)))
      · rw [b_or, b_and, ba_n1025 10 (by omega), ba_one _ (by omega) 10 (by omega), decide_eq_false (by omega), decide_eq_false (by omega)]; simp
      · dsimp only
        rw [b_or, b_and, ba_n1025 t ht, ba_one _ (by omega) t ht, gm_xqt hk2 z]
        simp [and_comm]
    · have c3 : (nI (gm_s G p k - 10)).toNatClampNeg = gm_s G p k - 10 := nI_clamp (by omega)
      have hf := hB (gm_s G p k - 10) (by omega)
      refine br_t (nI_le (a := 10) z (by omega)) ?_
      rw [ba_m10 z, c3]
      refine ⟨vp_in_nI (by omega) (by omega), nm_e (nm_r (nI_1 k) ?_)⟩
      rcases Classical.em (B 10 (gm_s G p k - 10)) with q | q
      · refine ih (k + 1) _ (by omega) ?_ (fun r hr => hP r (fun t ht => ?_))
        · rw [b_or, (hf 10 (by omega)).mpr ⟨by omega, q⟩]; simp
        · rw [hr t ht]
          dsimp only
          rw [gm_xqr hk2 z, b_or, b_and, ba_n1025 t ht, Bool.or_eq_true, Bool.and_eq_true, hf t ht]
          dsimp only
          rcases Classical.em (t = 10) with e | e
          · subst e; simp [q]
          · have e2 : t ≤ 10 ↔ t < 10 := by omega
            simp only [ne_eq, e, not_false_eq_true, decide_true, and_true, true_and, e2, q]
            constructor
            · rintro ((h | h) | h)
              · exact Or.inl h
              · exact Or.inr (Or.inl h)
              · exact Or.inr (Or.inr h)
            · rintro (h | h | h)
              · exact Or.inl (Or.inl h)
              · exact Or.inl (Or.inr h)
              · exact Or.inr h
      · have q0 : bt (a_first (gm_s G p k - 10)) 10 = false := by
          have := hf 10 (by omega)
          cases hh : bt (a_first (gm_s G p k - 10)) 10
          · rfl
          · exact absurd (this.mp hh).2 q
        refine xb_fr7e h15 _ ?_ (hP _ (fun t ht => ?_)) d _
        · rw [b_or, b_and, ba_n1025 10 (by omega), q0]; simp
        · dsimp only
          rw [gm_xqr hk2 z, b_or, b_and, ba_n1025 t ht, Bool.or_eq_true, Bool.and_eq_true, hf t ht]
          dsimp only
          rcases Classical.em (t = 10) with e | e
          · subst e; simp [q]
          · have e2 : t ≤ 10 ↔ t < 10 := by omega
            simp [e, e2, q]
theorem xb_fr (hG : gm_ok G) (hx : xg_ok G f_productionCount a_ruleOf a_marked a_symbolCount a_symbols a_roles) {B : Nat → Nat → Prop} (hB : ∀ n, n < 6 → gm_ms (a_first n) (fun t => t ≤ 10 ∧ B t n)) {p m : Nat} (hp : gm_v G p) (hm : m ≤ gm_l G p) (post : Int32 → Prop) (hP : ∀ r, gm_ms r (gm_xq G B p m) → post r) : wpX_firstOfRest post (f_built, f_productionCount, f_depth, a_ruleOf, a_marked, a_symbolCount, a_symbols, a_roles, a_derives, a_first, a_follow, a_textLength, a_kindAt, a_valueAt, a_failsAt, a_expectedAt, a_roleAt, a_scopeAt, a_openProduction, a_openNext, a_openStart, a_targetBefore) (nI p) (nI m) := by
  refine ⟨gm_l G p - m + 1, xb_fr7 hG hx hB hp post (gm_l G p - m) m 1024 (by omega) (ba_1024 10 (by omega)) (fun r hr => hP r (fun t ht => ?_))⟩
  rw [hr t ht]
  dsimp only
  rw [ba_1024 t ht]
  simp
/-! FIRST -/
theorem gm_xq_mo {B B' : Nat → Nat → Prop} (h : ∀ t n, B t n → B' t n) {p m t : Nat} (z : gm_xq G B p m t) : gm_xq G B' p m t :=
  z.elim (fun q => Or.inl ⟨q.1, gm_fs_mo (h 10) (h t) q.2⟩) (fun q => Or.inr ⟨q.1, gm_pn_mo (h 10) q.2⟩)
def gm_FU (G : gm_G) (t n : Nat) : Prop := (t < 10 ∧ gm_F G t n) ∨ (t = 10 ∧ gm_U G n)
theorem gm_xFU {p m t : Nat} : gm_xq G (gm_FU G) p m t ↔ gm_fq G t p m ∨ (t = 10 ∧ gm_uq G p m) := by
  have e10 : ∀ n, gm_FU G 10 n ↔ gm_U G n := fun n => ⟨fun h => h.elim (fun q => absurd q.1 (by omega)) (fun q => q.2), fun h => Or.inr ⟨rfl, h⟩⟩
  have et : ∀ t, t < 10 → ∀ n, gm_FU G t n ↔ gm_F G t n := fun t ht n => ⟨fun h => h.elim (fun q => q.2) (fun q => by omega), fun h => Or.inl ⟨ht, h⟩⟩
  constructor
  · rintro (⟨a, b⟩ | ⟨a, b⟩)
    · exact Or.inl ⟨a, gm_fs_mo (fun n => (e10 n).mp) (fun n => (et t a n).mp) b⟩
    · exact Or.inr ⟨a, gm_pn_mo (fun n => (e10 n).mp) b⟩
  · rintro (⟨a, b⟩ | ⟨a, b⟩)
    · exact Or.inl ⟨a, gm_fs_mo (fun n => (e10 n).mpr) (fun n => (et t a n).mpr) b⟩
    · exact Or.inr ⟨a, gm_pn_mo (fun n => (e10 n).mpr) b⟩
/-- levels of FIRST with nullable: nullable first, six rounds, then the terminals -/
def gm_FL (G : gm_G) (k t n : Nat) : Prop := (t = 10 ∧ fx_L (gm_uF G) k n) ∨ (t < 10 ∧ fx_L (gm_fF G t) (k - 6) n)
theorem gm_FL_s {k t n : Nat} (h : gm_FL G k t n) : gm_FU G t n := h.elim (fun q => Or.inr ⟨q.1, k, q.2⟩) (fun q => Or.inl ⟨q.1, _, q.2⟩)
theorem gm_FL_n {k t n : Nat} (h : gm_FL G (k + 1) t n) : ∃ p, p < gm_n G ∧ gm_r G p = n ∧ gm_xq G (gm_FL G k) p 0 t := by
  rcases h with ⟨a, b, p, c, d, e⟩ | ⟨a, b⟩
  · exact ⟨p, c, d, Or.inr ⟨a, gm_pn_mo (fun n q => Or.inl ⟨rfl, q⟩) e⟩⟩
  · rcases Nat.lt_or_ge k 6 with z | z
    · rw [show k + 1 - 6 = 0 from by omega] at b
      exact b.elim
    · rw [show k + 1 - 6 = (k - 6) + 1 from by omega] at b
      obtain ⟨_, _, p, c, d, e⟩ := b
      exact ⟨p, c, d, Or.inl ⟨a, gm_fs_mo (fun n q => Or.inl ⟨rfl, fx_le (gm_uM G) (by omega) (gm_U6 q)⟩) (fun n q => Or.inr ⟨a, q⟩) e⟩⟩
theorem gm_FL_e {t n : Nat} (h : gm_FU G t n) : gm_FL G 67 t n := h.elim (fun q => Or.inr ⟨q.1, fx_le (gm_fM G t) (by omega) (gm_F6 q.2)⟩) (fun q => Or.inl ⟨q.1, fx_le (gm_uM G) (by omega) (gm_U6 q.2)⟩)
theorem gm_FUc {p t n : Nat} (hG : gm_ok G) (hp : p < gm_n G) (hr : gm_r G p = n) (h : gm_xq G (gm_FU G) p 0 t) : gm_FU G t n := by
  have h6 := (hG.2.1 p hp).1
  rcases gm_xFU.mp h with h | ⟨a, b⟩
  · exact Or.inl ⟨h.1, gm_Fe.mpr ⟨by omega, h.1, p, hp, hr, h.2⟩⟩
  · exact Or.inr ⟨a, gm_Ue.mpr ⟨by omega, p, hp, hr, b⟩⟩
def xf_s (G : gm_G) (F : Nat → Int32) : Prop := ∀ n, n < 6 → ∀ t, t < 32 → bt (F n) t = true → gm_FU G t n
def xf_c (Q : Nat → Nat → Prop) (F : Nat → Int32) : Prop := ∀ n, n < 6 → ∀ t, Q t n → bt (F n) t = true
theorem xf_ms {F : Nat → Int32} (hs : xf_s G F) : ∀ n, n < 6 → gm_ms (F n) (fun t => t ≤ 10 ∧ (t < 32 ∧ n < 6 ∧ bt (F n) t = true)) := by
  intro n hn t ht
  constructor
  · intro h
    have := hs n hn t ht h
    exact ⟨this.elim (fun q => by omega) (fun q => by omega), ht, hn, h⟩
  · exact fun h => h.2.2.2
theorem gm_FU6 {t n : Nat} (h : gm_FU G t n) : n < 6 ∧ t ≤ 10 := h.elim (fun q => ⟨(gm_Fe.mp q.2).1, by omega⟩) (fun q => ⟨(gm_Ue.mp q.2).1, by omega⟩)
theorem xb_ff31 (hG : gm_ok G) (hx : xg_ok G f_productionCount a_ruleOf a_marked a_symbolCount a_symbols a_roles) {Q : Nat → Nat → Prop} (hQ : ∀ t n, Q t n → gm_FU G t n) (post : SX → Prop) (J23 : _) (x1 : Int32) (hJ : ∀ F, xf_s G F → (∀ t n, (∃ p, p < gm_n G ∧ gm_r G p = n ∧ gm_xq G Q p 0 t) → bt (F n) t = true) → J23 (x1 + 1) a_ruleOf a_marked a_symbolCount a_symbols a_roles a_derives F a_follow a_textLength a_kindAt a_valueAt a_failsAt a_expectedAt a_roleAt a_scopeAt a_openProduction a_openNext a_openStart a_targetBefore) :
    ∀ d p F, p + d = gm_n G → xf_s G F → xf_c Q F → (∀ p', p' < p → ∀ t, gm_xq G Q p' 0 t → bt (F (gm_r G p')) t = true) → wX_findFirst_31 post J23 x1 f_built f_productionCount f_depth (d + 1) (nI p) a_ruleOf a_marked a_symbolCount a_symbols a_roles a_derives F a_follow a_textLength a_kindAt a_valueAt a_failsAt a_expectedAt a_roleAt a_scopeAt a_openProduction a_openNext a_openStart a_targetBefore := by
  have h14 := hG.1
  have e0 := hx.1
  intro d
  induction d with
  | zero =>
    intro p F hp hs hq hI
    rw [wX_findFirst_31]
    dsimp only
    rw [e0]
    refine br_t (nI_le (by omega) (by omega)) (nm_e (hJ F hs (fun t n hn => ?_)))
    obtain ⟨p', a, b, c⟩ := hn
    rw [← b]
    exact hI p' (by omega) t c
  | succ d ih =>
    intro p F hp hs hq hI
    have hv : gm_v G p := Or.inl (by omega)
    have h6 := gm_v6 hG hv
    have c1 : (nI p).toNatClampNeg = p := nI_clamp (by omega)
    have c2 : (nI (gm_r G p)).toNatClampNeg = gm_r G p := nI_clamp (by omega)
    rw [wX_findFirst_31]
    dsimp only
    rw [e0, c1, (hx.2 p hv).1, c2]
    have i2 : vp_in (nI (gm_r G p)) 6 := vp_in_nI (by omega) (by omega)
    refine br_f (nI_ge (by omega) (by omega)) ⟨vp_in_nI (by omega) (by omega), i2, xb_fr (m := 0) hG (e0 ▸ hx) (xf_ms hs) hv (by omega) _ (fun r hr => ⟨i2, nm_e (nm_r (nI_1 p) ?_)⟩)⟩
    rw [← e0]
    have hr1 : ∀ t, t < 32 → bt r t = true → gm_FU G t (gm_r G p) := fun t ht h => gm_FUc hG (by omega) rfl (gm_xq_mo (fun t n q => hs n q.2.1 t q.1 q.2.2) ((hr t ht).mp h))
    refine ih (p + 1) _ (by omega) (fun n hn t ht h => ?_) (fun n hn t h => ?_) (fun p' hp' t h => ?_)
    · rw [ba_up] at h; split at h
      · next e =>
        subst e
        rw [b_or, Bool.or_eq_true] at h
        exact h.elim (hs _ hn t ht) (hr1 t ht)
      · exact hs n hn t ht h
    · rw [ba_up]; split
      · next e => subst e; rw [b_or, hq _ hn t h]; rfl
      · exact hq n hn t h
    · rw [ba_up]; split
      · next e =>
        rw [b_or, Bool.or_eq_true]
        rcases Nat.lt_or_ge p' p with y | y
        · exact Or.inl (e ▸ hI p' y t h)
        · have e2 : p' = p := by omega
          subst e2
          have h10 : t < 32 := by
            rcases h with h | h <;> omega
          exact Or.inr ((hr t h10).mpr (gm_xq_mo (fun t n q => ⟨by have := gm_FU6 (hQ t n q); omega, (gm_FU6 (hQ t n q)).1, hq n (gm_FU6 (hQ t n q)).1 t q⟩) h))
      · next e =>
        rcases Nat.lt_or_ge p' p with y | y
        · exact hI p' y t h
        · have e2 : p' = p := by omega
          subst e2; exact absurd rfl e
theorem xb_ff23 (hG : gm_ok G) (hx : xg_ok G f_productionCount a_ruleOf a_marked a_symbolCount a_symbols a_roles) (post : SX → Prop) (hP : ∀ F, (∀ n, n < 6 → gm_ms (F n) (fun t => t ≤ 10 ∧ gm_FU G t n)) → post (f_built, f_productionCount, f_depth, a_ruleOf, a_marked, a_symbolCount, a_symbols, a_roles, a_derives, F, a_follow, a_textLength, a_kindAt, a_valueAt, a_failsAt, a_expectedAt, a_roleAt, a_scopeAt, a_openProduction, a_openNext, a_openStart, a_targetBefore)) :
    ∀ d k F, k + d = 67 → xf_s G F → xf_c (gm_FL G k) F → wX_findFirst_23 post f_built f_productionCount f_depth (d + 1) (nI k) a_ruleOf a_marked a_symbolCount a_symbols a_roles a_derives F a_follow a_textLength a_kindAt a_valueAt a_failsAt a_expectedAt a_roleAt a_scopeAt a_openProduction a_openNext a_openStart a_targetBefore := by
  intro d
  induction d with
  | zero =>
    intro k F hk hs hq
    rw [wX_findFirst_23]
    dsimp only
    refine br_t (nI_le (a := 67) (by omega) (by omega)) (hP F (fun n hn t ht => ⟨fun h => ⟨(gm_FU6 (hs n hn t ht h)).2, hs n hn t ht h⟩, fun h => ?_⟩))
    have e : k = 67 := by omega
    subst e
    exact hq n hn t (gm_FL_e h.2)
  | succ d ih =>
    intro k F hk hs hq
    rw [wX_findFirst_23]
    dsimp only
    refine br_f (nI_ge (b := 67) (by omega) (by omega)) ⟨gm_n G + 1, xb_ff31 (Q := gm_FL G k) hG hx (fun t n => gm_FL_s) post _ (nI k) (fun F' a b => ?_) (gm_n G) 0 F (by omega) hs hq (fun p' hp' => by omega)⟩
    rw [nI_1]
    exact ih (k + 1) F' (by omega) a (fun n hn t h => b t n (gm_FL_n h))
theorem xb_ff2 (post : SX → Prop) (hP : ∀ F, (∀ n, n < 6 → F n = 0) → ∃ f, wX_findFirst_23 post f_built f_productionCount f_depth f 0 a_ruleOf a_marked a_symbolCount a_symbols a_roles a_derives F a_follow a_textLength a_kindAt a_valueAt a_failsAt a_expectedAt a_roleAt a_scopeAt a_openProduction a_openNext a_openStart a_targetBefore) :
    ∀ d k F, k + d = 6 → (∀ n, n < k → F n = 0) → wX_findFirst_2 post f_built f_productionCount f_depth (d + 1) (nI k) a_ruleOf a_marked a_symbolCount a_symbols a_roles a_derives F a_follow a_textLength a_kindAt a_valueAt a_failsAt a_expectedAt a_roleAt a_scopeAt a_openProduction a_openNext a_openStart a_targetBefore := by
  intro d
  induction d with
  | zero =>
    intro k D hk hs
    rw [wX_findFirst_2]
    dsimp only
    exact br_t (nI_le (a := 6) (by omega) (by omega)) (hP D (fun n hn => hs n (by omega)))
  | succ d ih =>
    intro k D hk hs
    have c1 : (nI k).toNatClampNeg = k := nI_clamp (by omega)
    rw [wX_findFirst_2]
    dsimp only
    rw [c1]
    refine br_f (nI_ge (b := 6) (by omega) (by omega)) ⟨vp_in_nI (by omega) (by omega), nm_e (nm_r (nI_1 k) (ih (k + 1) _ (by omega) (fun n hn => ?_)))⟩
    rw [ba_up]; split
    · rfl
    · exact hs n (by omega)
theorem xb_ff (hG : gm_ok G) (hx : xg_ok G f_productionCount a_ruleOf a_marked a_symbolCount a_symbols a_roles) (post : SX → Prop) (hP : ∀ F, (∀ n, n < 6 → gm_ms (F n) (fun t => t ≤ 10 ∧ gm_FU G t n)) → post (f_built, f_productionCount, f_depth, a_ruleOf, a_marked, a_symbolCount, a_symbols, a_roles, a_derives, F, a_follow, a_textLength, a_kindAt, a_valueAt, a_failsAt, a_expectedAt, a_roleAt, a_scopeAt, a_openProduction, a_openNext, a_openStart, a_targetBefore)) : wpX_findFirst post (f_built, f_productionCount, f_depth, a_ruleOf, a_marked, a_symbolCount, a_symbols, a_roles, a_derives, a_first, a_follow, a_textLength, a_kindAt, a_valueAt, a_failsAt, a_expectedAt, a_roleAt, a_scopeAt, a_openProduction, a_openNext, a_openStart, a_targetBefore) := by
  refine ⟨6 + 1, xb_ff2 post (fun F hF => ⟨67 + 1, xb_ff23 hG hx post hP 67 0 F (by omega) (fun n hn t ht h => ?_) (fun n hn t h => ?_)⟩) 6 0 a_first (by omega) (fun n hn => by omega)⟩
  · rw [hF n hn, b_0] at h
    exact absurd h (by decide)
  · rcases h with ⟨_, h⟩ | ⟨_, h⟩
    · exact h.elim
    · exact h.elim
end
