/-! linking, pure; X's side -/
noncomputable def lq (P : Nat → Prop) : Nat → Nat → Nat
  | 0, k => k
  | d + 1, k => @ite Nat (P k) (Classical.propDecidable _) k (lq P d (k + 1))
theorem lq_t {P : Nat → Prop} {d k : Nat} (h : P k) : lq P (d + 1) k = k := if_pos h
theorem lq_f {P : Nat → Prop} {d k : Nat} (h : ¬ P k) : lq P (d + 1) k = lq P d (k + 1) := if_neg h
theorem lq_s {P : Nat → Prop} : ∀ d k, k ≤ lq P d k ∧ lq P d k ≤ k + d ∧ (lq P d k < k + d → P (lq P d k)) ∧ ∀ x, k ≤ x → x < lq P d k → ¬ P x
  | 0, k => ⟨Nat.le_refl _, Nat.le_refl _, fun h => absurd h (Nat.lt_irrefl _), fun x a b => by have b : x < k := b; omega⟩
  | d + 1, k => by
    rcases Classical.em (P k) with h | h
    · rw [lq_t h]
      exact ⟨Nat.le_refl _, by omega, fun _ => h, fun x a b => by omega⟩
    · rw [lq_f h]
      obtain ⟨a, b, c, e⟩ := lq_s (P := P) d (k + 1)
      refine ⟨by omega, by omega, fun z => c (by omega), fun x x1 x2 => ?_⟩
      rcases Nat.lt_or_ge k x with y | y
      · exact e x y x2
      · have q : x = k := by omega
        subst q; exact h
def lk_s (c : Nat) : Prop := c = 0 ∨ ∃ i j, i < j ∧ j ≤ 20 ∧ c = 32 * i + j
def lk_h (c x : Nat) : Prop := c = 0 ∨ (c / 32 ≤ x ∧ x < c % 32)
def lk_z (c : Nat) : Nat := if c = 0 then 21 else c % 32 - c / 32
def lk_c (R C W : Nat → Nat → Nat) (f x n y : Nat) : Prop := y < 20 ∧ R f y = 1 ∧ W f y = n ∧ lk_h (C f y) x
def lk_I (R C W : Nat → Nat → Nat) (f x n r : Nat) : Prop := (lk_c R C W f x n r ∧ ∀ y, lk_c R C W f x n y → lk_z (C f r) < lk_z (C f y) ∨ (lk_z (C f r) = lk_z (C f y) ∧ r ≤ y)) ∨ (r = 20 ∧ ∀ y, ¬ lk_c R C W f x n y)
theorem lk_Iu {R C W : Nat → Nat → Nat} {f x n r r' : Nat} (h : lk_I R C W f x n r) (h' : lk_I R C W f x n r') : r' = r := by
  rcases h with ⟨a, b⟩ | ⟨a, b⟩
  · rcases h' with ⟨a', b'⟩ | ⟨a', b'⟩
    · have q := b r' a'
      have q' := b' r a
      omega
    · exact absurd a (b' r)
  · rcases h' with ⟨a', b'⟩ | ⟨a', b'⟩
    · exact absurd a' (b r')
    · omega
noncomputable def lk_i (R C W : Nat → Nat → Nat) (f x n : Nat) : Nat := cl_pick (lk_I R C W f x n) 20
theorem lk_ie {R C W : Nat → Nat → Nat} {f x n r : Nat} (h : lk_I R C W f x n r) : lk_i R C W f x n = r := cl_t h (fun _ z => lk_Iu h z)
def lk_r (R C W : Nat → Nat → Nat) (g n x : Nat) : Prop := R g x = 1 ∧ W g x = n ∧ C g x = 0
noncomputable def lk_q (R C W : Nat → Nat → Nat) (g n : Nat) : Nat := lq (lk_r R C W g n) 20 0
def lk_a (R C W : Nat → Nat → Nat) (f n i : Nat) : Prop := R f i = 3 ∧ lk_q R C W (W f i % 4) n < 20
noncomputable def lk_e (R C W : Nat → Nat → Nat) (f n p : Nat) : Nat := if p < 20 then (W f p % 4) * 20 + lk_q R C W (W f p % 4) n else 80
noncomputable def lk_m (R C W : Nat → Nat → Nat) (f n : Nat) : Nat := lk_e R C W f n (lq (lk_a R C W f n) 20 0)
noncomputable def lk_t (R C W : Nat → Nat → Nat) (f x : Nat) : Nat := if lk_i R C W f x (W f x) < 20 then f * 20 + lk_i R C W f x (W f x) else lk_m R C W f (W f x)
/-- a place, or none at 80 -/
def pl_o (y : Nat) : Int32 := if y < 80 then nI y else -1
theorem pl_n {y : Nat} (h : y < 80) : ¬ nI y = -1 := fun z => by
  have := nI_pos' (n := y) (by omega)
  rw [z] at this
  exact absurd this (by decide)
theorem lk_c1 {c : Nat} (h : c < 2 ^ 31) : nI c - 1 = -1 ↔ c = 0 := by
  constructor
  · intro z
    rcases Nat.eq_zero_or_pos c with q | q
    · exact q
    · rw [ba_m1 q] at z
      have := nI_pos' (n := c - 1) (by omega)
      rw [z] at this
      exact absurd this (by decide)
  · intro z
    subst z; rfl
theorem lk_c2 {a b : Nat} (ha : a < 2 ^ 31) (hb : b < 2 ^ 31) : nI a - 1 = nI b - 1 ↔ a = b := by
  constructor
  · intro z
    have : nI a = nI b := by
      have := congrArg (fun t => t + 1) z
      simpa using this
    exact (nI_eq ha hb).mp this
  · intro z; rw [z]
theorem lk_s1 {c : Nat} (h : lk_s c) : c < 700 := by
  rcases h with h | ⟨i, j, a, b, e⟩ <;> omega
theorem lk_qs (R C W : Nat → Nat → Nat) (g n : Nat) : lk_q R C W g n ≤ 20 ∧ (lk_q R C W g n < 20 → lk_r R C W g n (lk_q R C W g n)) := by
  obtain ⟨a, b, c, d⟩ := lq_s (P := lk_r R C W g n) 20 0
  exact ⟨by unfold lk_q; omega, fun h => c (by unfold lk_q at h; omega)⟩
theorem lk_m80 (R C W : Nat → Nat → Nat) (f n : Nat) : lk_m R C W f n ≤ 80 := by
  obtain ⟨a, b, c, d⟩ := lq_s (P := lk_a R C W f n) 20 0
  unfold lk_m lk_e
  split
  · next h =>
    have := (c (by omega)).2
    omega
  · omega
theorem lk_t80 {R C W : Nat → Nat → Nat} {f x : Nat} (hf : f < 4) : lk_t R C W f x ≤ 80 := by
  unfold lk_t
  split
  · omega
  · exact lk_m80 _ _ _ _ _
def xl_ok (R C W : Nat → Nat → Nat) (RO SC VA : Nat → Int32) : Prop := (∀ f x, f < 4 → x < 20 → RO (f * 20 + x) = nI (R f x) ∧ R f x < 4 ∧ VA (f * 20 + x) = nI (W f x) ∧ W f x < 16) ∧ ((∃ f x, f < 4 ∧ x < 20 ∧ ¬ R f x = 0) → ∀ f x, f < 4 → x < 20 → SC (f * 20 + x) = nI (C f x) - 1 ∧ lk_s (C f x))
section
variable {f_built f_productionCount f_depth : Int32} {a_ruleOf a_marked a_symbolCount a_symbols a_roles a_derives a_first a_follow a_textLength a_kindAt a_valueAt a_failsAt a_expectedAt a_roleAt a_scopeAt a_openProduction a_openNext a_openStart a_targetBefore : Nat → Int32} {R C W : Nat → Nat → Nat}
theorem xl_fpb {f x : Nat} (hf : f < 4) (hx : x < 20) (post : Int32 → Prop) (h : post (nI (f * 20))) : wpX_firstPlaceBeside post (nI (f * 20 + x)) := by
  refine ⟨by decide, ?_⟩
  rw [show (20 : Int32) = nI 20 from rfl, pk_rem (by omega) (by omega) (by omega), pk_sub (Nat.mod_le _ _)]
  rw [show f * 20 + x - (f * 20 + x) % 20 = f * 20 from by omega]
  exact h
theorem xl_c17 (hl : xl_ok R C W a_roleAt a_scopeAt a_valueAt) {f r : Nat} (hf : f < 4) (hr : r < 4) (post : Int32 → Prop) (hP : post (nI (cn (fun x => R f x = r) 20))) :
    ∀ d x, x + d = 20 → wX_countRole_17 post (nI f) (nI r) f_built f_productionCount f_depth a_ruleOf a_marked a_symbolCount a_symbols a_roles a_derives a_first a_follow a_textLength a_kindAt a_valueAt a_failsAt a_expectedAt a_roleAt a_scopeAt a_openProduction a_openNext a_openStart a_targetBefore (d + 1) (nI (cn (fun x => R f x = r) x)) (nI (f * 20 + x)) := by
  intro d
  induction d with
  | zero =>
    intro x hx
    have e : x = 20 := by omega
    subst e
    rw [wX_countRole_17]
    dsimp only
    rw [ba_20, ba_p20]
    exact br_t (nI_le (by omega) (by omega)) hP
  | succ d ih =>
    intro x hx
    obtain ⟨h1, h2, _, _⟩ := hl.1 f x hf (by omega)
    have cI : (nI (f * 20 + x)).toNatClampNeg = f * 20 + x := nI_clamp (by omega)
    rw [wX_countRole_17]
    dsimp only
    rw [ba_20, ba_p20, cI, h1]
    refine br_f (nI_ge (by omega) (by omega)) ⟨vp_in_nI (by omega) (by omega), pk_eq (R f x) r (fun e => nm_r (nI_1 _) (nm_r (nI_1 _) ?_)) (fun e => nm_r (nI_1 _) ?_)⟩
    · have q := ih (x + 1) (by omega)
      rw [show cn (fun x => R f x = r) (x + 1) = cn (fun x => R f x = r) x + b01 (R f x = r) from rfl, b01_t e] at q
      exact q
    · have q := ih (x + 1) (by omega)
      rw [show cn (fun x => R f x = r) (x + 1) = cn (fun x => R f x = r) x + b01 (R f x = r) from rfl, b01_f e, Nat.add_zero] at q
      exact q
theorem xl_count (hl : xl_ok R C W a_roleAt a_scopeAt a_valueAt) {v1 : Int32} {r : Nat} (hr : r < 4) (post : Int32 → Prop) (h0 : (¬ ∃ f, f < 4 ∧ v1 = nI f) → post 0) (h1 : ∀ f, f < 4 → v1 = nI f → post (nI (cn (fun x => R f x = r) 20))) : wpX_countRole post (f_built, f_productionCount, f_depth, a_ruleOf, a_marked, a_symbolCount, a_symbols, a_roles, a_derives, a_first, a_follow, a_textLength, a_kindAt, a_valueAt, a_failsAt, a_expectedAt, a_roleAt, a_scopeAt, a_openProduction, a_openNext, a_openStart, a_targetBefore) v1 (nI r) := by
  unfold wpX_countRole
  dsimp only
  refine xm_isf _ (fun hn => br_t rfl (h0 hn)) (fun f hf e => br_f (by decide) ?_)
  subst e
  exact nm_r (ba_20 f) ⟨20 + 1, xl_c17 hl hf hr post (h1 f hf rfl) 20 0 (by omega)⟩
/-- the k-th of a role -/
def lk_p (R : Nat → Nat → Nat) (f r : Nat) (v : Int32) (x : Nat) : Prop := x < 20 ∧ R f x = r ∧ v = nI (cn (fun x => R f x = r) x)
theorem xl_p18 (hl : xl_ok R C W a_roleAt a_scopeAt a_valueAt) {f r : Nat} {v : Int32} (hf : f < 4) (hr : r < 4) (post : Int32 → Prop) (hP1 : ∀ x, lk_p R f r v x → post (nI (f * 20 + x))) (hP0 : (∀ x, ¬ lk_p R f r v x) → post (-1)) :
    ∀ d x, x + d = 20 → (∀ y, y < x → ¬ lk_p R f r v y) → wX_placeOf_18 post (nI f) (nI r) v f_built f_productionCount f_depth a_ruleOf a_marked a_symbolCount a_symbols a_roles a_derives a_first a_follow a_textLength a_kindAt a_valueAt a_failsAt a_expectedAt a_roleAt a_scopeAt a_openProduction a_openNext a_openStart a_targetBefore (d + 1) (nI (cn (fun x => R f x = r) x)) (nI (f * 20 + x)) := by
  intro d
  induction d with
  | zero =>
    intro x hx hI
    have e : x = 20 := by omega
    subst e
    rw [wX_placeOf_18]
    dsimp only
    rw [ba_20, ba_p20]
    exact br_t (nI_le (by omega) (by omega)) (hP0 (fun y z => hI y z.1 z))
  | succ d ih =>
    intro x hx hI
    obtain ⟨h1, h2, _, _⟩ := hl.1 f x hf (by omega)
    have cI : (nI (f * 20 + x)).toNatClampNeg = f * 20 + x := nI_clamp (by omega)
    have nx : ¬ lk_p R f r v x → ∀ y, y < x + 1 → ¬ lk_p R f r v y := fun h y hy => by
      rcases Nat.lt_or_ge y x with z | z
      · exact hI y z
      · have e : y = x := by omega
        subst e; exact h
    rw [wX_placeOf_18]
    dsimp only
    rw [ba_20, ba_p20, cI, h1]
    refine br_f (nI_ge (by omega) (by omega)) ⟨vp_in_nI (by omega) (by omega), pk_eq (R f x) r (fun e => br_c (fun e2 => hP1 x ⟨by omega, e, e2.symm⟩) (fun e2 => nm_r (nI_1 _) (nm_r (nI_1 _) ?_))) (fun e => nm_r (nI_1 _) ?_)⟩
    · have q := ih (x + 1) (by omega) (nx (fun z => e2 z.2.2.symm))
      rw [show cn (fun x => R f x = r) (x + 1) = cn (fun x => R f x = r) x + b01 (R f x = r) from rfl, b01_t e] at q
      exact q
    · have q := ih (x + 1) (by omega) (nx (fun z => e z.2.1))
      rw [show cn (fun x => R f x = r) (x + 1) = cn (fun x => R f x = r) x + b01 (R f x = r) from rfl, b01_f e, Nat.add_zero] at q
      exact q
theorem xl_place (hl : xl_ok R C W a_roleAt a_scopeAt a_valueAt) {v1 v2 : Int32} {r : Nat} (hr : r < 4) (post : Int32 → Prop) (hP0 : (¬ ∃ f x, f < 4 ∧ v1 = nI f ∧ lk_p R f r v2 x) → post (-1)) (hP1 : ∀ f x, f < 4 → v1 = nI f → lk_p R f r v2 x → post (nI (f * 20 + x))) : wpX_placeOf post (f_built, f_productionCount, f_depth, a_ruleOf, a_marked, a_symbolCount, a_symbols, a_roles, a_derives, a_first, a_follow, a_textLength, a_kindAt, a_valueAt, a_failsAt, a_expectedAt, a_roleAt, a_scopeAt, a_openProduction, a_openNext, a_openStart, a_targetBefore) v1 (nI r) v2 := by
  unfold wpX_placeOf
  dsimp only
  refine xm_isf _ (fun hn => br_t rfl (hP0 (fun ⟨f, x, a, b, _⟩ => hn ⟨f, a, b⟩))) (fun f hf e => br_f (by decide) ?_)
  subst e
  refine nm_r (ba_20 f) ⟨20 + 1, xl_p18 hl hf hr post (fun x h => hP1 f x hf rfl h) (fun h => hP0 (fun ⟨f', x, a, b, c⟩ => ?_)) 20 0 (by omega) (fun y h => by omega)⟩
  have e := (nI_eq (by omega) (by omega)).mp b
  subst e
  exact h x c
theorem xl_def (hl : xl_ok R C W a_roleAt a_scopeAt a_valueAt) {f x n : Nat} (hf : f < 4) (hx : x < 20) (hn : n < 16) (post : Int32 → Prop) (h1 : R f x = 1 → W f x = n → post 1) (h0 : ¬ (R f x = 1 ∧ W f x = n) → post 0) : wpX_defines post (f_built, f_productionCount, f_depth, a_ruleOf, a_marked, a_symbolCount, a_symbols, a_roles, a_derives, a_first, a_follow, a_textLength, a_kindAt, a_valueAt, a_failsAt, a_expectedAt, a_roleAt, a_scopeAt, a_openProduction, a_openNext, a_openStart, a_targetBefore) (nI (f * 20 + x)) (nI n) := by
  obtain ⟨a1, a2, a3, a4⟩ := hl.1 f x hf hx
  have cI : (nI (f * 20 + x)).toNatClampNeg = f * 20 + x := nI_clamp (by omega)
  have iI : vp_in (nI (f * 20 + x)) 80 := vp_in_nI (by omega) (by omega)
  unfold wpX_defines
  dsimp only
  rw [cI, a1, a3]
  exact ⟨iI, pk_eq (R f x) 1 (fun e => ⟨iI, pk_eq (W f x) n (fun e2 => h1 e e2) (fun e2 => h0 (fun z => e2 z.2))⟩) (fun e => h0 (fun z => e z.1))⟩
theorem xl_holds {c x : Nat} (hc : lk_s c) (hx : x < 20) (post : Int32 → Prop) (h1 : lk_h c x → post 1) (h0 : ¬ lk_h c x → post 0) : wpX_scopeHolds post (nI c - 1) (nI x) := by
  have c7 := lk_s1 hc
  unfold wpX_scopeHolds
  refine ek_if (lk_c1 (by omega)) (fun z => h1 (Or.inl z)) (fun z => ⟨by decide, ?_⟩)
  obtain ⟨i, j, a, b, e⟩ := hc.elim (fun y => absurd y z) id
  subst e
  have e1 : (32 * i + j - 1) / 32 = i := by omega
  have e2 : (32 * i + j - 1) % 32 = j - 1 := by omega
  rw [ba_m1 (by omega), show (32 : Int32) = nI 32 from rfl, pk_rem (by omega) (by omega) (by omega), pk_div (by omega) (by omega) (by omega), e1, e2]
  have h32 : ¬ nI 32 = 0 := by decide
  refine pk_lt x i (fun y => h0 (fun q => ?_)) (fun y => ⟨h32, pk_lt (j - 1) x (fun y2 => h0 (fun q => ?_)) (fun y2 => h1 (Or.inr ⟨by omega, by omega⟩))⟩)
  · rcases q with q | q <;> omega
  · rcases q with q | q <;> omega
theorem xl_size {c : Nat} (hc : lk_s c) (post : Int32 → Prop) (h : post (nI (lk_z c))) : wpX_scopeSize post (nI c - 1) := by
  have c7 := lk_s1 hc
  unfold wpX_scopeSize
  refine ek_if (lk_c1 (by omega)) (fun z => ?_) (fun z => ⟨by decide, by decide, ?_⟩)
  · subst z; exact h
  · obtain ⟨i, j, a, b, e⟩ := hc.elim (fun y => absurd y z) id
    have e1 : (32 * i + j - 1) / 32 = i := by omega
    have e2 : (32 * i + j - 1) % 32 = j - 1 := by omega
    have e3 : lk_z c = j - 1 - i + 1 := by
      unfold lk_z
      rw [if_neg z]
      omega
    rw [e3] at h
    subst e
    rw [ba_m1 (by omega), show (32 : Int32) = nI 32 from rfl, pk_rem (by omega) (by omega) (by omega), pk_div (by omega) (by omega) (by omega), e1, e2, pk_sub (by omega), nI_1]
    exact h
theorem lk_z22 {c : Nat} (h : lk_s c) : lk_z c ≤ 21 := by
  unfold lk_z
  rcases h with h | ⟨i, j, a, b, e⟩
  · rw [if_pos h]; omega
  · split <;> omega
theorem xl_tf14 (hl : xl_ok R C W a_roleAt a_scopeAt a_valueAt) {f x : Nat} (hf : f < 4) (hx : x < 20) (hSC : ∀ f x, f < 4 → x < 20 → a_scopeAt (f * 20 + x) = nI (C f x) - 1 ∧ lk_s (C f x)) (post : Int32 → Prop) (hP : ∀ r, lk_I R C W f x (W f x) r → post (if r < 20 then nI (f * 20 + r) else -1)) :
    ∀ d k x3 x4, k + d = 20 → (x3 = -1 ∧ x4 = nI 22 ∧ (∀ y, y < k → ¬ lk_c R C W f x (W f x) y) ∨ ∃ r, r < k ∧ lk_c R C W f x (W f x) r ∧ x3 = nI (f * 20 + r) ∧ x4 = nI (lk_z (C f r)) ∧ ∀ y, y < k → lk_c R C W f x (W f x) y → lk_z (C f r) < lk_z (C f y) ∨ (lk_z (C f r) = lk_z (C f y) ∧ r ≤ y)) → wX_targetInFile_14 post (nI (f * 20 + x)) (nI (f * 20)) f_built f_productionCount f_depth a_ruleOf a_marked a_symbolCount a_symbols a_roles a_derives a_first a_follow a_textLength a_kindAt a_valueAt a_failsAt a_expectedAt a_roleAt a_scopeAt a_openProduction a_openNext a_openStart a_targetBefore (d + 1) x3 x4 (nI (f * 20 + k)) := by
  have cX : (nI (f * 20 + x)).toNatClampNeg = f * 20 + x := nI_clamp (by omega)
  have iX : vp_in (nI (f * 20 + x)) 80 := vp_in_nI (by omega) (by omega)
  obtain ⟨_, _, w1, w2⟩ := hl.1 f x hf hx
  intro d
  induction d with
  | zero =>
    intro k x3 x4 hk hI
    have e : k = 20 := by omega
    subst e
    rw [wX_targetInFile_14]
    dsimp only
    rw [ba_p20]
    refine br_t (nI_le (by omega) (by omega)) ?_
    rcases hI with ⟨a, _, c⟩ | ⟨r, a, b, c, _, e⟩
    · have := hP 20 (Or.inr ⟨rfl, fun y z => c y z.1 z⟩)
      rw [if_neg (by omega)] at this
      rw [a]; exact this
    · have := hP r (Or.inl ⟨b, fun y z => e y z.1 z⟩)
      rw [if_pos a] at this
      rw [c]; exact this
  | succ d ih =>
    intro k x3 x4 hk hI
    obtain ⟨s1, s2⟩ := hSC f k hf (by omega)
    have cK : (nI (f * 20 + k)).toNatClampNeg = f * 20 + k := nI_clamp (by omega)
    have iK : vp_in (nI (f * 20 + k)) 80 := vp_in_nI (by omega) (by omega)
    have z21 := lk_z22 s2
    -- not a candidate
    have skip : ¬ lk_c R C W f x (W f x) k → wX_targetInFile_14 post (nI (f * 20 + x)) (nI (f * 20)) f_built f_productionCount f_depth a_ruleOf a_marked a_symbolCount a_symbols a_roles a_derives a_first a_follow a_textLength a_kindAt a_valueAt a_failsAt a_expectedAt a_roleAt a_scopeAt a_openProduction a_openNext a_openStart a_targetBefore (d + 1) x3 x4 (nI (f * 20 + (k + 1))) := by
      intro h
      refine ih (k + 1) x3 x4 (by omega) ?_
      have nx : ∀ y, y < k + 1 → lk_c R C W f x (W f x) y → y < k := fun y hy z => by
        rcases Nat.lt_or_ge y k with q | q
        · exact q
        · have e : y = k := by omega
          subst e; exact absurd z h
      rcases hI with ⟨a, b, c⟩ | ⟨r, a, b, c, e, g⟩
      · exact Or.inl ⟨a, b, fun y hy z => c y (nx y hy z) z⟩
      · exact Or.inr ⟨r, by omega, b, c, e, fun y hy z => g y (nx y hy z) z⟩
    rw [wX_targetInFile_14]
    dsimp only
    rw [ba_p20, cX, w1, cK, s1, pk_sub (show f * 20 ≤ f * 20 + x from by omega), Nat.add_sub_cancel_left]
    refine br_f (nI_ge (by omega) (by omega)) ⟨iX, xl_def hl hf (by omega) w2 _ (fun d1 d2 => br_f (by decide) ⟨iK, xl_holds s2 hx _ (fun h => br_f (by decide) ⟨iK, xl_size s2 _ ?_⟩) (fun h => br_t rfl (nm_r (nI_1 _) (skip (fun z => h z.2.2.2))))⟩) (fun h => br_t rfl (nm_r (nI_1 _) (skip (fun z => h ⟨z.2.1, z.2.2.1⟩))))⟩
    have hc : lk_c R C W f x (W f x) k := ⟨by omega, d1, d2, h⟩
    rcases hI with ⟨a, b, c⟩ | ⟨r, a, b, c, e, g⟩
    · refine br_f (by rw [b]; exact nI_ge (by omega) (by omega)) (nm_r (nI_1 _) (ih (k + 1) _ _ (by omega) (Or.inr ⟨k, by omega, hc, rfl, rfl, fun y hy z => ?_⟩)))
      rcases Nat.lt_or_ge y k with q | q
      · exact absurd z (c y q)
      · have e : y = k := by omega
        subst e; exact Or.inr ⟨rfl, Nat.le_refl _⟩
    · have zr := lk_z22 (hSC f r hf (by omega)).2
      rw [e]
      refine pk_le (lk_z (C f r)) (lk_z (C f k)) (fun q => nm_r (nI_1 _) (ih (k + 1) _ _ (by omega) (Or.inr ⟨r, by omega, b, c, rfl, fun y hy z => ?_⟩))) (fun q => nm_r (nI_1 _) (ih (k + 1) _ _ (by omega) (Or.inr ⟨k, by omega, hc, rfl, rfl, fun y hy z => ?_⟩)))
      · rcases Nat.lt_or_ge y k with t | t
        · exact g y t z
        · have e : y = k := by omega
          subst e; omega
      · rcases Nat.lt_or_ge y k with t | t
        · have := g y t z
          omega
        · have e : y = k := by omega
          subst e; exact Or.inr ⟨rfl, Nat.le_refl _⟩
theorem xl_tf (hl : xl_ok R C W a_roleAt a_scopeAt a_valueAt) {f x : Nat} (hf : f < 4) (hx : x < 20) (hSC : ∀ f x, f < 4 → x < 20 → a_scopeAt (f * 20 + x) = nI (C f x) - 1 ∧ lk_s (C f x)) (post : Int32 → Prop) (hP : ∀ r, lk_I R C W f x (W f x) r → post (if r < 20 then nI (f * 20 + r) else -1)) : wpX_targetInFile post (f_built, f_productionCount, f_depth, a_ruleOf, a_marked, a_symbolCount, a_symbols, a_roles, a_derives, a_first, a_follow, a_textLength, a_kindAt, a_valueAt, a_failsAt, a_expectedAt, a_roleAt, a_scopeAt, a_openProduction, a_openNext, a_openStart, a_targetBefore) (nI (f * 20 + x)) := by
  unfold wpX_targetInFile
  dsimp only
  exact xl_fpb hf hx _ ⟨20 + 1, xl_tf14 hl hf hx hSC post hP 20 0 (-1) (nI 22) (by omega) (Or.inl ⟨rfl, rfl, fun y h => by omega⟩)⟩
theorem xl_r5 (hl : xl_ok R C W a_roleAt a_scopeAt a_valueAt) {g n : Nat} (hg : g < 4) (hn : n < 16) (hSC : ∀ f x, f < 4 → x < 20 → a_scopeAt (f * 20 + x) = nI (C f x) - 1 ∧ lk_s (C f x)) (post : Int32 → Prop) :
    ∀ d k, k + d = 20 → (∀ q, q = lq (lk_r R C W g n) d k → post (if q < 20 then nI (g * 20 + q) else -1)) → wX_firstInRoot_5 post (nI g) (nI n) f_built f_productionCount f_depth a_ruleOf a_marked a_symbolCount a_symbols a_roles a_derives a_first a_follow a_textLength a_kindAt a_valueAt a_failsAt a_expectedAt a_roleAt a_scopeAt a_openProduction a_openNext a_openStart a_targetBefore (d + 1) (nI (g * 20 + k)) := by
  intro d
  induction d with
  | zero =>
    intro k hk hP
    have e : k = 20 := by omega
    subst e
    have := hP 20 rfl
    rw [if_neg (by omega)] at this
    rw [wX_firstInRoot_5]
    dsimp only
    rw [ba_20, ba_p20]
    exact br_t (nI_le (by omega) (by omega)) this
  | succ d ih =>
    intro k hk hP
    obtain ⟨s1, s2⟩ := hSC g k hg (by omega)
    have c7 := lk_s1 s2
    have cK : (nI (g * 20 + k)).toNatClampNeg = g * 20 + k := nI_clamp (by omega)
    have skip : ¬ lk_r R C W g n k → wX_firstInRoot_5 post (nI g) (nI n) f_built f_productionCount f_depth a_ruleOf a_marked a_symbolCount a_symbols a_roles a_derives a_first a_follow a_textLength a_kindAt a_valueAt a_failsAt a_expectedAt a_roleAt a_scopeAt a_openProduction a_openNext a_openStart a_targetBefore (d + 1) (nI (g * 20 + (k + 1))) := fun h => ih (k + 1) (by omega) (fun q e => hP q (by rw [lq_f h]; exact e))
    rw [wX_firstInRoot_5]
    dsimp only
    rw [ba_20, ba_p20, cK, s1]
    refine br_f (nI_ge (by omega) (by omega)) ⟨vp_in_nI (by omega) (by omega), ek_if (lk_c1 (by omega)) (fun z => xl_def hl hg (by omega) hn _ (fun d1 d2 => br_f (by decide) ?_) (fun h => br_t rfl (nm_r (nI_1 _) (skip (fun y => h ⟨y.1, y.2.1⟩))))) (fun z => nm_r (nI_1 _) (skip (fun y => z y.2.2)))⟩
    have := hP k (lq_t ⟨d1, d2, z⟩).symm
    rw [if_pos (by omega)] at this
    exact this
theorem xl_fr (hl : xl_ok R C W a_roleAt a_scopeAt a_valueAt) {g n : Nat} (hg : g < 4) (hn : n < 16) (hSC : ∀ f x, f < 4 → x < 20 → a_scopeAt (f * 20 + x) = nI (C f x) - 1 ∧ lk_s (C f x)) (post : Int32 → Prop) (hP : post (if lk_q R C W g n < 20 then nI (g * 20 + lk_q R C W g n) else -1)) : wpX_firstInRoot post (f_built, f_productionCount, f_depth, a_ruleOf, a_marked, a_symbolCount, a_symbols, a_roles, a_derives, a_first, a_follow, a_textLength, a_kindAt, a_valueAt, a_failsAt, a_expectedAt, a_roleAt, a_scopeAt, a_openProduction, a_openNext, a_openStart, a_targetBefore) (nI g) (nI n) := by
  unfold wpX_firstInRoot
  dsimp only
  exact nm_r (ba_20 g) ⟨20 + 1, xl_r5 hl hg hn hSC post 20 0 (by omega) (fun q e => by subst e; exact hP)⟩
theorem xl_i7 (hl : xl_ok R C W a_roleAt a_scopeAt a_valueAt) {f x : Nat} (hf : f < 4) (hx : x < 20) (hSC : ∀ f x, f < 4 → x < 20 → a_scopeAt (f * 20 + x) = nI (C f x) - 1 ∧ lk_s (C f x)) (post : Int32 → Prop) :
    ∀ d k, k + d = 20 → (∀ q, q = lq (lk_a R C W f (W f x)) d k → post (pl_o (lk_e R C W f (W f x) q))) → wX_targetInImports_7 post (nI (f * 20 + x)) (nI (f * 20)) f_built f_productionCount f_depth a_ruleOf a_marked a_symbolCount a_symbols a_roles a_derives a_first a_follow a_textLength a_kindAt a_valueAt a_failsAt a_expectedAt a_roleAt a_scopeAt a_openProduction a_openNext a_openStart a_targetBefore (d + 1) (nI (f * 20 + k)) := by
  have cX : (nI (f * 20 + x)).toNatClampNeg = f * 20 + x := nI_clamp (by omega)
  have iX : vp_in (nI (f * 20 + x)) 80 := vp_in_nI (by omega) (by omega)
  obtain ⟨_, _, w1, w2⟩ := hl.1 f x hf hx
  intro d
  induction d with
  | zero =>
    intro k hk hP
    have e : k = 20 := by omega
    subst e
    have := hP 20 rfl
    unfold lk_e pl_o at this
    rw [if_neg (show ¬ (20 < 20) from by omega), if_neg (by omega)] at this
    rw [wX_targetInImports_7]
    dsimp only
    rw [ba_p20]
    exact br_t (nI_le (by omega) (by omega)) this
  | succ d ih =>
    intro k hk hP
    obtain ⟨a1, a2, a3, a4⟩ := hl.1 f k hf (by omega)
    have cK : (nI (f * 20 + k)).toNatClampNeg = f * 20 + k := nI_clamp (by omega)
    have iK : vp_in (nI (f * 20 + k)) 80 := vp_in_nI (by omega) (by omega)
    have skip : ¬ lk_a R C W f (W f x) k → wX_targetInImports_7 post (nI (f * 20 + x)) (nI (f * 20)) f_built f_productionCount f_depth a_ruleOf a_marked a_symbolCount a_symbols a_roles a_derives a_first a_follow a_textLength a_kindAt a_valueAt a_failsAt a_expectedAt a_roleAt a_scopeAt a_openProduction a_openNext a_openStart a_targetBefore (d + 1) (nI (f * 20 + (k + 1))) := fun h => ih (k + 1) (by omega) (fun q e => hP q (by rw [lq_f h]; exact e))
    rw [wX_targetInImports_7]
    dsimp only
    rw [ba_p20, cK, a1, a3, cX, w1, show (4 : Int32) = nI 4 from rfl, pk_rem (by omega) (by omega) (by omega)]
    refine br_f (nI_ge (by omega) (by omega)) ⟨iK, pk_eq (R f k) 3 (fun e => ⟨iK, by decide, iX, xl_fr hl (by omega) w2 hSC _ ?_⟩) (fun e => nm_r (nI_1 _) (skip (fun z => e z.1)))⟩
    rcases Nat.lt_or_ge (lk_q R C W (W f k % 4) (W f x)) 20 with z | z
    · rw [if_pos z]
      have := hP k (lq_t ⟨e, z⟩).symm
      unfold lk_e pl_o at this
      rw [if_pos (show k < 20 from by omega), if_pos (by omega)] at this
      exact br_f (pl_n (by omega)) this
    · rw [if_neg (by omega)]
      exact br_t rfl (nm_r (nI_1 _) (skip (fun y => by have := y.2; omega)))
theorem xl_tp (hl : xl_ok R C W a_roleAt a_scopeAt a_valueAt) {f x : Nat} (hf : f < 4) (hx : x < 20) (post : Int32 → Prop) (h0 : ¬ R f x = 2 → post (-1)) (h1 : R f x = 2 → post (pl_o (lk_t R C W f x))) : wpX_targetPlace post (f_built, f_productionCount, f_depth, a_ruleOf, a_marked, a_symbolCount, a_symbols, a_roles, a_derives, a_first, a_follow, a_textLength, a_kindAt, a_valueAt, a_failsAt, a_expectedAt, a_roleAt, a_scopeAt, a_openProduction, a_openNext, a_openStart, a_targetBefore) (nI (f * 20 + x)) := by
  obtain ⟨a1, a2, a3, a4⟩ := hl.1 f x hf hx
  have cX : (nI (f * 20 + x)).toNatClampNeg = f * 20 + x := nI_clamp (by omega)
  have iX : vp_in (nI (f * 20 + x)) 80 := vp_in_nI (by omega) (by omega)
  unfold wpX_targetPlace
  dsimp only
  rw [cX, a1]
  refine ⟨iX, pk_eq (R f x) 2 (fun e => ?_) (fun e => h0 e)⟩
  have h1 := h1 e
  have hSC := hl.2 ⟨f, x, hf, hx, by omega⟩
  refine xl_tf hl hf hx hSC _ (fun r hr => ?_)
  unfold lk_t at h1
  rw [lk_ie hr] at h1
  rcases Nat.lt_or_ge r 20 with z | z
  · rw [if_pos z] at h1 ⊢
    unfold pl_o at h1
    rw [if_pos (by omega)] at h1
    exact br_f (pl_n (by omega)) h1
  · rw [if_neg (by omega)] at h1 ⊢
    refine br_t rfl ?_
    unfold wpX_targetInImports
    dsimp only
    exact xl_fpb hf hx _ ⟨20 + 1, xl_i7 hl hf hx hSC _ 20 0 (by omega) (fun q e => by subst e; exact h1)⟩
theorem xl_dn7 (hl : xl_ok R C W a_roleAt a_scopeAt a_valueAt) {f x : Nat} (hf : f < 4) (hx : x < 20) (post : Int32 → Prop) (hP : post (nI (cn (fun y => R f y = 1) x))) :
    ∀ d k, k + d = x → wX_definitionNumber_7 post (nI (f * 20 + x)) f_built f_productionCount f_depth a_ruleOf a_marked a_symbolCount a_symbols a_roles a_derives a_first a_follow a_textLength a_kindAt a_valueAt a_failsAt a_expectedAt a_roleAt a_scopeAt a_openProduction a_openNext a_openStart a_targetBefore (d + 1) (nI (cn (fun y => R f y = 1) k)) (nI (f * 20 + k)) := by
  intro d
  induction d with
  | zero =>
    intro k hk
    have e : k = x := by omega
    subst e
    rw [wX_definitionNumber_7]
    dsimp only
    exact br_t (nI_le (by omega) (by omega)) hP
  | succ d ih =>
    intro k hk
    obtain ⟨a1, a2, a3, a4⟩ := hl.1 f k hf (by omega)
    have cK : (nI (f * 20 + k)).toNatClampNeg = f * 20 + k := nI_clamp (by omega)
    rw [wX_definitionNumber_7]
    dsimp only
    rw [cK, a1]
    refine br_f (nI_ge (by omega) (by omega)) ⟨vp_in_nI (by omega) (by omega), pk_eq (R f k) 1 (fun e => nm_r (nI_1 _) (nm_r (nI_1 _) ?_)) (fun e => nm_r (nI_1 _) ?_)⟩
    · have q := ih (k + 1) (by omega)
      rw [show cn (fun y => R f y = 1) (k + 1) = cn (fun y => R f y = 1) k + b01 (R f k = 1) from rfl, b01_t e] at q
      exact q
    · have q := ih (k + 1) (by omega)
      rw [show cn (fun y => R f y = 1) (k + 1) = cn (fun y => R f y = 1) k + b01 (R f k = 1) from rfl, b01_f e, Nat.add_zero] at q
      exact q
theorem xl_dn (hl : xl_ok R C W a_roleAt a_scopeAt a_valueAt) {f x : Nat} (hf : f < 4) (hx : x < 20) (post : Int32 → Prop) (hP : post (nI (cn (fun y => R f y = 1) x))) : wpX_definitionNumber post (f_built, f_productionCount, f_depth, a_ruleOf, a_marked, a_symbolCount, a_symbols, a_roles, a_derives, a_first, a_follow, a_textLength, a_kindAt, a_valueAt, a_failsAt, a_expectedAt, a_roleAt, a_scopeAt, a_openProduction, a_openNext, a_openStart, a_targetBefore) (nI (f * 20 + x)) := by
  unfold wpX_definitionNumber
  dsimp only
  exact xl_fpb hf hx _ ⟨x + 1, xl_dn7 hl hf hx post hP x 0 (by omega)⟩
/-! duplicates -/
def lk_u (R C W : Nat → Nat → Nat) (f x : Nat) : Prop := R f x = 1 ∧ ∃ y, y < x ∧ R f y = 1 ∧ C f y = C f x ∧ W f y = W f x
theorem xl_re5 (hl : xl_ok R C W a_roleAt a_scopeAt a_valueAt) {f x : Nat} (hf : f < 4) (hx : x < 20) (hSC : ∀ f x, f < 4 → x < 20 → a_scopeAt (f * 20 + x) = nI (C f x) - 1 ∧ lk_s (C f x)) (post : Int32 → Prop) (h1 : (∃ y, y < x ∧ R f y = 1 ∧ C f y = C f x ∧ W f y = W f x) → post 1) (h0 : (¬ ∃ y, y < x ∧ R f y = 1 ∧ C f y = C f x ∧ W f y = W f x) → post 0) :
    ∀ d k, k + d = x → (∀ y, y < k → ¬ (R f y = 1 ∧ C f y = C f x ∧ W f y = W f x)) → wX_repeatsEarlier_5 post (nI (f * 20 + x)) f_built f_productionCount f_depth a_ruleOf a_marked a_symbolCount a_symbols a_roles a_derives a_first a_follow a_textLength a_kindAt a_valueAt a_failsAt a_expectedAt a_roleAt a_scopeAt a_openProduction a_openNext a_openStart a_targetBefore (d + 1) (nI (f * 20 + k)) := by
  have cX : (nI (f * 20 + x)).toNatClampNeg = f * 20 + x := nI_clamp (by omega)
  have iX : vp_in (nI (f * 20 + x)) 80 := vp_in_nI (by omega) (by omega)
  obtain ⟨_, _, w1, w2⟩ := hl.1 f x hf hx
  obtain ⟨t1, t2⟩ := hSC f x hf hx
  have t7 := lk_s1 t2
  intro d
  induction d with
  | zero =>
    intro k hk hI
    have e : k = x := by omega
    subst e
    rw [wX_repeatsEarlier_5]
    dsimp only
    exact br_t (nI_le (by omega) (by omega)) (h0 (fun ⟨y, a, b⟩ => hI y a b))
  | succ d ih =>
    intro k hk hI
    obtain ⟨s1, s2⟩ := hSC f k hf (by omega)
    have s7 := lk_s1 s2
    have cK : (nI (f * 20 + k)).toNatClampNeg = f * 20 + k := nI_clamp (by omega)
    have iK : vp_in (nI (f * 20 + k)) 80 := vp_in_nI (by omega) (by omega)
    have skip : ¬ (R f k = 1 ∧ C f k = C f x ∧ W f k = W f x) → wX_repeatsEarlier_5 post (nI (f * 20 + x)) f_built f_productionCount f_depth a_ruleOf a_marked a_symbolCount a_symbols a_roles a_derives a_first a_follow a_textLength a_kindAt a_valueAt a_failsAt a_expectedAt a_roleAt a_scopeAt a_openProduction a_openNext a_openStart a_targetBefore (d + 1) (nI (f * 20 + (k + 1))) := fun h => ih (k + 1) (by omega) (fun y hy => by
      rcases Nat.lt_or_ge y k with z | z
      · exact hI y z
      · have e : y = k := by omega
        subst e; exact h)
    rw [wX_repeatsEarlier_5]
    dsimp only
    rw [cK, cX, s1, t1, w1]
    exact br_f (nI_ge (by omega) (by omega)) ⟨iK, iX, ek_if (lk_c2 (by omega) (by omega)) (fun e => ⟨iX, xl_def hl hf (by omega) w2 _ (fun d1 d2 => br_f (by decide) (h1 ⟨k, by omega, d1, e, d2⟩)) (fun h => br_t rfl (nm_r (nI_1 _) (skip (fun z => h ⟨z.1, z.2.2⟩))))⟩) (fun e => nm_r (nI_1 _) (skip (fun z => e z.2.1)))⟩
theorem xl_d16 (hl : xl_ok R C W a_roleAt a_scopeAt a_valueAt) {f : Nat} (hf : f < 4) (post : Int32 → Prop) (hP : post (nI (cn (lk_u R C W f) 20))) :
    ∀ d x, x + d = 20 → wX_duplicates_16 post (nI f) f_built f_productionCount f_depth a_ruleOf a_marked a_symbolCount a_symbols a_roles a_derives a_first a_follow a_textLength a_kindAt a_valueAt a_failsAt a_expectedAt a_roleAt a_scopeAt a_openProduction a_openNext a_openStart a_targetBefore (d + 1) (nI (cn (lk_u R C W f) x)) (nI (f * 20 + x)) := by
  intro d
  induction d with
  | zero =>
    intro x hx
    have e : x = 20 := by omega
    subst e
    rw [wX_duplicates_16]
    dsimp only
    rw [ba_20, ba_p20]
    exact br_t (nI_le (by omega) (by omega)) hP
  | succ d ih =>
    intro x hx
    obtain ⟨a1, a2, a3, a4⟩ := hl.1 f x hf (by omega)
    have cI : (nI (f * 20 + x)).toNatClampNeg = f * 20 + x := nI_clamp (by omega)
    have no : ¬ lk_u R C W f x → wX_duplicates_16 post (nI f) f_built f_productionCount f_depth a_ruleOf a_marked a_symbolCount a_symbols a_roles a_derives a_first a_follow a_textLength a_kindAt a_valueAt a_failsAt a_expectedAt a_roleAt a_scopeAt a_openProduction a_openNext a_openStart a_targetBefore (d + 1) (nI (cn (lk_u R C W f) x)) (nI (f * 20 + (x + 1))) := fun h => by
      have q := ih (x + 1) (by omega)
      rw [show cn (lk_u R C W f) (x + 1) = cn (lk_u R C W f) x + b01 (lk_u R C W f x) from rfl, b01_f h, Nat.add_zero] at q
      exact q
    rw [wX_duplicates_16]
    dsimp only
    rw [ba_20, ba_p20, cI, a1]
    refine br_f (nI_ge (by omega) (by omega)) ⟨vp_in_nI (by omega) (by omega), pk_eq (R f x) 1 (fun e => ?_) (fun e => nm_r (nI_1 _) (no (fun z => e z.1)))⟩
    have hSC := hl.2 ⟨f, x, hf, by omega, by omega⟩
    unfold wpX_repeatsEarlier
    dsimp only
    refine xl_fpb hf (by omega) _ ⟨x + 1, xl_re5 hl hf (by omega) hSC _ (fun h => br_f (by decide) (nm_r (nI_1 _) (nm_r (nI_1 _) ?_))) (fun h => br_t rfl (nm_r (nI_1 _) (no (fun z => h z.2)))) x 0 (by omega) (fun y h => by omega)⟩
    have q := ih (x + 1) (by omega)
    rw [show cn (lk_u R C W f) (x + 1) = cn (lk_u R C W f) x + b01 (lk_u R C W f x) from rfl, b01_t ⟨e, h⟩] at q
    exact q
theorem xl_dup (hl : xl_ok R C W a_roleAt a_scopeAt a_valueAt) {v1 : Int32} (post : Int32 → Prop) (h0 : (¬ ∃ f, f < 4 ∧ v1 = nI f) → post 0) (h1 : ∀ f, f < 4 → v1 = nI f → post (nI (cn (lk_u R C W f) 20))) : wpX_duplicates post (f_built, f_productionCount, f_depth, a_ruleOf, a_marked, a_symbolCount, a_symbols, a_roles, a_derives, a_first, a_follow, a_textLength, a_kindAt, a_valueAt, a_failsAt, a_expectedAt, a_roleAt, a_scopeAt, a_openProduction, a_openNext, a_openStart, a_targetBefore) v1 := by
  unfold wpX_duplicates
  dsimp only
  refine xm_isf _ (fun hn => br_t rfl (h0 hn)) (fun f hf e => br_f (by decide) ?_)
  subst e
  exact nm_r (ba_20 f) ⟨20 + 1, xl_d16 hl hf post (h1 f hf rfl) 20 0 (by omega)⟩
/-! unresolved -/
def lk_v (R C W : Nat → Nat → Nat) (y : Nat) : Prop := R (y / 20) (y % 20) = 2 ∧ lk_t R C W (y / 20) (y % 20) = 80
theorem xl_u4 (hl : xl_ok R C W a_roleAt a_scopeAt a_valueAt) (post : Int32 → Prop) (hP : post (nI (cn (lk_v R C W) 80))) :
    ∀ d y, y + d = 80 → wX_unresolved_4 post f_built f_productionCount f_depth a_ruleOf a_marked a_symbolCount a_symbols a_roles a_derives a_first a_follow a_textLength a_kindAt a_valueAt a_failsAt a_expectedAt a_roleAt a_scopeAt a_openProduction a_openNext a_openStart a_targetBefore (d + 1) (nI (cn (lk_v R C W) y)) (nI y) := by
  intro d
  induction d with
  | zero =>
    intro y hy
    have e : y = 80 := by omega
    subst e
    rw [wX_unresolved_4]
    dsimp only
    exact br_t (nI_le (a := 80) (by omega) (by omega)) hP
  | succ d ih =>
    intro y hy
    have hf : y / 20 < 4 := by omega
    have hx : y % 20 < 20 := by omega
    have ey : y / 20 * 20 + y % 20 = y := by omega
    obtain ⟨a1, a2, a3, a4⟩ := hl.1 (y / 20) (y % 20) hf hx
    have tp := xl_tp (f_built := f_built) (f_productionCount := f_productionCount) (f_depth := f_depth) (a_ruleOf := a_ruleOf) (a_marked := a_marked) (a_symbolCount := a_symbolCount) (a_symbols := a_symbols) (a_roles := a_roles) (a_derives := a_derives) (a_first := a_first) (a_follow := a_follow) (a_textLength := a_textLength) (a_kindAt := a_kindAt) (a_valueAt := a_valueAt) (a_failsAt := a_failsAt) (a_expectedAt := a_expectedAt) (a_roleAt := a_roleAt) (a_scopeAt := a_scopeAt) (a_openProduction := a_openProduction) (a_openNext := a_openNext) (a_openStart := a_openStart) (a_targetBefore := a_targetBefore) hl hf hx
    rw [ey] at a1
    have cI : (nI y).toNatClampNeg = y := nI_clamp (by omega)
    have no : ¬ lk_v R C W y → wX_unresolved_4 post f_built f_productionCount f_depth a_ruleOf a_marked a_symbolCount a_symbols a_roles a_derives a_first a_follow a_textLength a_kindAt a_valueAt a_failsAt a_expectedAt a_roleAt a_scopeAt a_openProduction a_openNext a_openStart a_targetBefore (d + 1) (nI (cn (lk_v R C W) y)) (nI (y + 1)) := fun h => by
      have q := ih (y + 1) (by omega)
      rw [show cn (lk_v R C W) (y + 1) = cn (lk_v R C W) y + b01 (lk_v R C W y) from rfl, b01_f h, Nat.add_zero] at q
      exact q
    rw [wX_unresolved_4]
    dsimp only
    rw [cI, a1]
    refine br_f (nI_ge (b := 80) (by omega) (by omega)) ⟨vp_in_nI (by omega) (by omega), pk_eq (R (y / 20) (y % 20)) 2 (fun e => ?_) (fun e => nm_r (nI_1 _) (no (fun z => e z.1)))⟩
    rw [← ey]
    refine tp _ (fun h => absurd e h) (fun _ => ?_)
    rw [ey]
    have t80 := lk_t80 (R := R) (C := C) (W := W) (f := y / 20) (x := y % 20) hf
    unfold pl_o
    rcases Nat.lt_or_ge (lk_t R C W (y / 20) (y % 20)) 80 with z | z
    · rw [if_pos z]
      exact br_f (pl_n z) (nm_r (nI_1 _) (no (fun q => by have := q.2; omega)))
    · rw [if_neg (by omega)]
      refine br_t rfl (nm_r (nI_1 _) (nm_r (nI_1 _) ?_))
      have q := ih (y + 1) (by omega)
      rw [show cn (lk_v R C W) (y + 1) = cn (lk_v R C W) y + b01 (lk_v R C W y) from rfl, b01_t ⟨e, by omega⟩] at q
      exact q
end
