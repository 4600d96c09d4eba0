/-! linking, Y's side -/
theorem sc_ex {G : gm_G} (hG : gm_gd G) {w : Nat → Nat} {len : Nat} (hw : w len = 10) {x a b : Nat} (h : sc_in G w len x a b) : ∃ i j, sc_m G w len x i j := by
  obtain ⟨s, ⟨i, j, h1, h2⟩, h3⟩ := pk_least (fun s => ∃ i j, sc_in G w len x i j ∧ j - i = s) ⟨_, a, b, h, rfl⟩
  refine ⟨i, j, h1, fun a' b' z => ?_⟩
  have q := h3 (b' - a')
  rcases sc_nest hG hw h1 z with y | y
  · have z1 := z.1.1
    have h11 := h1.1.1
    rcases Nat.lt_or_ge (b' - a') s with t | t
    · exact absurd ⟨a', b', z, rfl⟩ (q t)
    · omega
  · exact y
theorem pc_m {G : gm_G} (hG : gm_gd G) {w : Nat → Nat} {len : Nat} (hw : w len = 10) (hd : dr_D G w 0 0 len) (x : Nat) : (px_c G w len x = 0 ∧ ∀ a b, ¬ sc_in G w len x a b) ∨ ∃ i j, sc_m G w len x i j ∧ px_c G w len x = 32 * i + j := by
  rcases Classical.em (∃ a b, sc_in G w len x a b) with ⟨a, b, h⟩ | h
  · obtain ⟨i, j, z⟩ := sc_ex hG hw h
    exact Or.inr ⟨i, j, z, px_ct hd z⟩
  · have h' : ∀ a b, ¬ sc_in G w len x a b := fun a b z => h ⟨a, b, z⟩
    exact Or.inl ⟨px_cn h', h'⟩
def ry_Q (G : gm_G) (L K V : Nat → Nat) (B : Nat → Int32) (S : Nat → Prop) (v : SY) : Prop := ry_R true G L K V v ∧ ry_B v = B ∧ ∀ g, g < 4 → S g → ry_K G L K g v
def pl_w (V : Nat → Nat) (f x : Nat) : Nat := V (f * 20 + x)
def lk_n (R C W : Nat → Nat → Nat) (f c n x : Nat) : Prop := R f x = 1 ∧ W f x = n ∧ C f x = c
noncomputable def lk_w (R : Nat → Nat → Nat) (y : Nat) : Int32 := if y < 80 then nI (y / 20 * 32 + cn (fun z => R (y / 20) z = 1) (y % 20)) else -1
section
variable {G : gm_G} {L K V : Nat → Nat} {B : Nat → Int32} {S : Nat → Prop}
theorem pl_t (hG : gm_gd G) {f x : Nat} (h : ¬ pl_r G L K f x = 0) : dr_D G (tx_w L K f) 0 0 (L f) ∧ x < L f := by
  constructor
  · rcases Classical.em (dr_D G (tx_w L K f) 0 0 (L f)) with z | z
    · exact z
    · exact absurd (px_r0 z) h
  · rcases Nat.lt_or_ge x (L f) with z | z
    · exact z
    · exact absurd (px_rn hG tx_wn z) h
theorem pl_s (hG : gm_gd G) (hT : tx_ok L K V) {f x : Nat} (hf : f < 4) : lk_s (pl_c G L K f x) := by
  have l := hT.1 f hf
  unfold pl_c
  rcases Classical.em (dr_D G (tx_w L K f) 0 0 (L f)) with hd | hd
  · rcases pc_m hG tx_wn hd x with ⟨z, _⟩ | ⟨i, j, z, e⟩
    · exact Or.inl z
    · have q := sc_len hG tx_wn z.1.1
      exact Or.inr ⟨i, j, q.1, by omega, e⟩
  · exact Or.inl (px_c0 hd)
theorem yl_is {v : SY} (hG : gm_gd G) (hT : tx_ok L K V) (hY : ry_Q G L K V B S v) {f x r : Nat} (hf : f < 4) (hx : x < 20) (hr : 1 ≤ r ∧ r < 4) (post : Int32 → SY → Prop) (hP1 : pl_r G L K f x = r → ∀ v', ry_Q G L K V B S v' → ry_K G L K f v' → post 1 v') (hP0 : ¬ pl_r G L K f x = r → ∀ v', ry_Q G L K V B S v' → ry_K G L K f v' → post 0 v') : wpY_is post v (nI f) (nI x) (nI r) :=
  ym_is hG hT hY.1 hf hx hr post (fun h v' a b c => hP1 h v' ⟨a, c.1.trans hY.2.1, fun g hg hs => c.2 g hg (hY.2.2 g hg hs)⟩ b) (fun h v' a b c => hP0 h v' ⟨a, c.1.trans hY.2.1, fun g hg hs => c.2 g hg (hY.2.2 g hg hs)⟩ b)
theorem cn_s (P : Nat → Prop) (k : Nat) : cn P (k + 1) = cn P k + b01 (P k) := rfl
theorem yl_c20 (hG : gm_gd G) (hT : tx_ok L K V) {f r : Nat} (hf : f < 4) (hr : 1 ≤ r ∧ r < 4) (post : Int32 → SY → Prop) (hP : ∀ v, ry_Q G L K V B S v → post (nI (cn (fun x => pl_r G L K f x = r) 20)) v) :
    ∀ d x v, x + d = 20 → ry_Q G L K V B S v → match v with | (f_np, f_built, f_some, f_empty, f_wn, f_nt, a_pRule, a_pScope, a_pLen, a_sym, a_role, a_first, a_follow, a_kind, a_val, a_len, a_word, a_reach, a_beyond, a_way, a_known, a_bad, a_part, a_scopes, a_inner, a_tRule, a_tFrom, a_tTo, a_before) => wY_count_20 post (nI f) (nI r) (d + 1) (nI (cn (fun x => pl_r G L K f x = r) x)) (nI x) f_np f_built f_some f_empty f_wn f_nt a_pRule a_pScope a_pLen a_sym a_role a_first a_follow a_kind a_val a_len a_word a_reach a_beyond a_way a_known a_bad a_part a_scopes a_inner a_tRule a_tFrom a_tTo a_before := by
  intro d
  induction d with
  | zero =>
    intro x v hx hv
    obtain ⟨f_np, f_built, f_some, f_empty, f_wn, f_nt, a_pRule, a_pScope, a_pLen, a_sym, a_role, a_first, a_follow, a_kind, a_val, a_len, a_word, a_reach, a_beyond, a_way, a_known, a_bad, a_part, a_scopes, a_inner, a_tRule, a_tFrom, a_tTo, a_before⟩ := v
    have e : x = 20 := by omega
    subst e
    dsimp only
    rw [wY_count_20]
    exact br_t (nI_le (a := 20) (by omega) (by omega)) (hP _ hv)
  | succ d ih =>
    intro x v hx hv
    obtain ⟨f_np, f_built, f_some, f_empty, f_wn, f_nt, a_pRule, a_pScope, a_pLen, a_sym, a_role, a_first, a_follow, a_kind, a_val, a_len, a_word, a_reach, a_beyond, a_way, a_known, a_bad, a_part, a_scopes, a_inner, a_tRule, a_tFrom, a_tTo, a_before⟩ := v
    dsimp only
    rw [wY_count_20]
    refine br_f (nI_ge (b := 20) (by omega) (by omega)) (yl_is hG hT hv hf (by omega) hr _ (fun e v' hv' _ => ?_) (fun e v' hv' _ => ?_))
    · have q := ih (x + 1) v' (by omega) hv'
      obtain ⟨f_np, f_built, f_some, f_empty, f_wn, f_nt, a_pRule, a_pScope, a_pLen, a_sym, a_role, a_first, a_follow, a_kind, a_val, a_len, a_word, a_reach, a_beyond, a_way, a_known, a_bad, a_part, a_scopes, a_inner, a_tRule, a_tFrom, a_tTo, a_before⟩ := v'
      rw [cn_s, b01_t e] at q
      exact br_f (by decide) (nm_r (nI_1 _) (nm_r (nI_1 _) q))
    · have q := ih (x + 1) v' (by omega) hv'
      obtain ⟨f_np, f_built, f_some, f_empty, f_wn, f_nt, a_pRule, a_pScope, a_pLen, a_sym, a_role, a_first, a_follow, a_kind, a_val, a_len, a_word, a_reach, a_beyond, a_way, a_known, a_bad, a_part, a_scopes, a_inner, a_tRule, a_tFrom, a_tTo, a_before⟩ := v'
      rw [cn_s, b01_f e, Nat.add_zero] at q
      exact br_t rfl (nm_r (nI_1 _) q)
theorem yl_count {v : SY} (hG : gm_gd G) (hT : tx_ok L K V) (hY : ry_Q G L K V B S v) {v1 : Int32} {r : Nat} (hr : 1 ≤ r ∧ r < 4) (post : Int32 → SY → Prop) (h0 : (¬ ∃ f, f < 4 ∧ v1 = nI f) → post 0 v) (h1 : ∀ f, f < 4 → v1 = nI f → ∀ v', ry_Q G L K V B S v' → post (nI (cn (fun x => pl_r G L K f x = r) 20)) v') : wpY_count post v v1 (nI r) := by
  obtain ⟨f_np, f_built, f_some, f_empty, f_wn, f_nt, a_pRule, a_pScope, a_pLen, a_sym, a_role, a_first, a_follow, a_kind, a_val, a_len, a_word, a_reach, a_beyond, a_way, a_known, a_bad, a_part, a_scopes, a_inner, a_tRule, a_tFrom, a_tTo, a_before⟩ := v
  unfold wpY_count
  dsimp only
  refine br_f (by rw [hY.1.1]; decide) (ym_isf _ (fun hn => br_t rfl (h0 hn)) (fun f hf e => br_f (by decide) ⟨20 + 1, ?_⟩))
  subst e
  exact yl_c20 hG hT hf hr post (h1 f hf rfl) 20 0 _ (by omega) hY
theorem yl_p6 (hG : gm_gd G) (hT : tx_ok L K V) {f r k : Nat} (hf : f < 4) (hr : 1 ≤ r ∧ r < 4) (hk : k < 2 ^ 31) (post : Int32 → SY → Prop) (hP1 : ∀ x v, lk_p (pl_r G L K) f r (nI k) x → ry_Q G L K V B S v → ry_K G L K f v → post (nI x) v) (hP0 : ∀ v, (∀ x, ¬ lk_p (pl_r G L K) f r (nI k) x) → ry_Q G L K V B S v → post (-1) v) :
    ∀ d x v, x + d = 20 → ry_Q G L K V B S v → cn (fun x => pl_r G L K f x = r) x ≤ k → (∀ y, y < x → ¬ lk_p (pl_r G L K) f r (nI k) y) → match v with | (f_np, f_built, f_some, f_empty, f_wn, f_nt, a_pRule, a_pScope, a_pLen, a_sym, a_role, a_first, a_follow, a_kind, a_val, a_len, a_word, a_reach, a_beyond, a_way, a_known, a_bad, a_part, a_scopes, a_inner, a_tRule, a_tFrom, a_tTo, a_before) => wY_placeOf_6 post (nI f) (nI r) (nI k) (d + 1) (nI (k - cn (fun x => pl_r G L K f x = r) x)) (nI x) f_np f_built f_some f_empty f_wn f_nt a_pRule a_pScope a_pLen a_sym a_role a_first a_follow a_kind a_val a_len a_word a_reach a_beyond a_way a_known a_bad a_part a_scopes a_inner a_tRule a_tFrom a_tTo a_before := by
  intro d
  induction d with
  | zero =>
    intro x v hx hv hc hI
    obtain ⟨f_np, f_built, f_some, f_empty, f_wn, f_nt, a_pRule, a_pScope, a_pLen, a_sym, a_role, a_first, a_follow, a_kind, a_val, a_len, a_word, a_reach, a_beyond, a_way, a_known, a_bad, a_part, a_scopes, a_inner, a_tRule, a_tFrom, a_tTo, a_before⟩ := v
    have e : x = 20 := by omega
    subst e
    dsimp only
    rw [wY_placeOf_6]
    exact br_t (nI_le (a := 20) (by omega) (by omega)) (hP0 _ (fun y z => hI y z.1 z) hv)
  | succ d ih =>
    intro x v hx hv hc hI
    obtain ⟨f_np, f_built, f_some, f_empty, f_wn, f_nt, a_pRule, a_pScope, a_pLen, a_sym, a_role, a_first, a_follow, a_kind, a_val, a_len, a_word, a_reach, a_beyond, a_way, a_known, a_bad, a_part, a_scopes, a_inner, a_tRule, a_tFrom, a_tTo, a_before⟩ := v
    have nx : ¬ lk_p (pl_r G L K) f r (nI k) x → ∀ y, y < x + 1 → ¬ lk_p (pl_r G L K) f r (nI k) y := fun h y hy => by
      rcases Nat.lt_or_ge y x with z | z
      · exact hI y z
      · have e : y = x := by omega
        subst e; exact h
    have cl := cn_le (fun x => pl_r G L K f x = r) x
    dsimp only
    rw [wY_placeOf_6]
    refine br_f (nI_ge (b := 20) (by omega) (by omega)) (br_f (nI_pos hk) (yl_is hG hT hv hf (by omega) hr _ (fun e v' hv' hk' => ?_) (fun e v' hv' _ => ?_)))
    · refine br_f (by decide) (nm_e ?_)
      rcases Nat.lt_or_ge (cn (fun x => pl_r G L K f x = r) x) k with z | z
      · have hne : k - cn (fun x => pl_r G L K f x = r) x ≠ 0 := by omega
        have q := ih (x + 1) v' (by omega) hv' (by rw [cn_s, b01_t e]; omega) (nx (fun y => by
          have := (nI_eq (by omega) (by omega)).mp y.2.2
          omega))
        obtain ⟨f_np, f_built, f_some, f_empty, f_wn, f_nt, a_pRule, a_pScope, a_pLen, a_sym, a_role, a_first, a_follow, a_kind, a_val, a_len, a_word, a_reach, a_beyond, a_way, a_known, a_bad, a_part, a_scopes, a_inner, a_tRule, a_tFrom, a_tTo, a_before⟩ := v'
        rw [cn_s, b01_t e] at q
        refine br_f (nI_ne0 (by omega) (by omega)) (nm_r (nI_1 _) ?_)
        rw [ba_s1 (by omega), show k - cn (fun x => pl_r G L K f x = r) x - 1 = k - (cn (fun x => pl_r G L K f x = r) x + 1) from by omega]
        exact q
      · refine br_t ?_ (hP1 x v' ⟨by omega, e, ?_⟩ hv' hk')
        · rw [show k - cn (fun x => pl_r G L K f x = r) x = 0 from by omega]; rfl
        · rw [show k = cn (fun x => pl_r G L K f x = r) x from by omega]
    · have q := ih (x + 1) v' (by omega) hv' (by rw [cn_s, b01_f e]; omega) (nx (fun y => e y.2.1))
      obtain ⟨f_np, f_built, f_some, f_empty, f_wn, f_nt, a_pRule, a_pScope, a_pLen, a_sym, a_role, a_first, a_follow, a_kind, a_val, a_len, a_word, a_reach, a_beyond, a_way, a_known, a_bad, a_part, a_scopes, a_inner, a_tRule, a_tFrom, a_tTo, a_before⟩ := v'
      rw [cn_s, b01_f e, Nat.add_zero] at q
      exact br_t rfl (nm_r (nI_1 _) q)
theorem yl_place {v : SY} (hG : gm_gd G) (hT : tx_ok L K V) (hY : ry_Q G L K V B S v) {f r : Nat} {v2 : Int32} (hf : f < 4) (hr : 1 ≤ r ∧ r < 4) (post : Int32 → SY → Prop) (hP1 : ∀ x v, lk_p (pl_r G L K) f r v2 x → ry_Q G L K V B S v → ry_K G L K f v → post (nI x) v) (hP0 : ∀ v, (∀ x, ¬ lk_p (pl_r G L K) f r v2 x) → ry_Q G L K V B S v → post (-1) v) : wpY_placeOf post v (nI f) (nI r) v2 := by
  obtain ⟨f_np, f_built, f_some, f_empty, f_wn, f_nt, a_pRule, a_pScope, a_pLen, a_sym, a_role, a_first, a_follow, a_kind, a_val, a_len, a_word, a_reach, a_beyond, a_way, a_known, a_bad, a_part, a_scopes, a_inner, a_tRule, a_tFrom, a_tTo, a_before⟩ := v
  unfold wpY_placeOf
  dsimp only
  rcases Classical.em (v2 < 0) with h | h
  · refine ⟨1, ?_⟩
    rw [wY_placeOf_6]
    refine br_f (by decide) (br_t h (hP0 _ (fun x z => ?_) hY))
    have := cn_le (fun x => pl_r G L K f x = r) x
    have hx := z.1
    have e := z.2.2
    subst e
    exact nI_pos (by omega) h
  · obtain ⟨k, hk, e⟩ := nI_of h
    subst e
    exact ⟨20 + 1, yl_p6 hG hT hf hr hk post hP1 hP0 20 0 _ (by omega) hY (by exact Nat.zero_le _) (fun y h => by omega)⟩
theorem yl_f6 (hG : gm_gd G) (hT : tx_ok L K V) {f c n : Nat} (hf : f < 4) (hc : c < 700) (hn : n < 16) (post : Int32 → SY → Prop) :
    ∀ d x v, x + d = 20 → ry_Q G L K V B S v → (x = 0 ∨ ry_K G L K f v) → (∀ q v', q = lq (lk_n (pl_r G L K) (pl_c G L K) (pl_w V) f c n) d x → ry_Q G L K V B S v' → ry_K G L K f v' → post (if q < 20 then nI (f * 32 + cn (fun x => pl_r G L K f x = 1) q) else -1) v') → match v with | (f_np, f_built, f_some, f_empty, f_wn, f_nt, a_pRule, a_pScope, a_pLen, a_sym, a_role, a_first, a_follow, a_kind, a_val, a_len, a_word, a_reach, a_beyond, a_way, a_known, a_bad, a_part, a_scopes, a_inner, a_tRule, a_tFrom, a_tTo, a_before) => wY_firstIn_6 post (nI f) (nI c - 1) (nI n) (d + 1) (nI (cn (fun x => pl_r G L K f x = 1) x)) (nI x) f_np f_built f_some f_empty f_wn f_nt a_pRule a_pScope a_pLen a_sym a_role a_first a_follow a_kind a_val a_len a_word a_reach a_beyond a_way a_known a_bad a_part a_scopes a_inner a_tRule a_tFrom a_tTo a_before := by
  intro d
  induction d with
  | zero =>
    intro x v hx hv hk hP
    obtain ⟨f_np, f_built, f_some, f_empty, f_wn, f_nt, a_pRule, a_pScope, a_pLen, a_sym, a_role, a_first, a_follow, a_kind, a_val, a_len, a_word, a_reach, a_beyond, a_way, a_known, a_bad, a_part, a_scopes, a_inner, a_tRule, a_tFrom, a_tTo, a_before⟩ := v
    have e : x = 20 := by omega
    subst e
    have := hP 20 _ rfl hv (hk.elim (fun z => by omega) id)
    rw [if_neg (by omega)] at this
    dsimp only
    rw [wY_firstIn_6]
    exact br_t (nI_le (a := 20) (by omega) (by omega)) this
  | succ d ih =>
    intro x v hx hv hk hP
    obtain ⟨f_np, f_built, f_some, f_empty, f_wn, f_nt, a_pRule, a_pScope, a_pLen, a_sym, a_role, a_first, a_follow, a_kind, a_val, a_len, a_word, a_reach, a_beyond, a_way, a_known, a_bad, a_part, a_scopes, a_inner, a_tRule, a_tFrom, a_tTo, a_before⟩ := v
    dsimp only
    rw [wY_firstIn_6]
    refine br_f (nI_ge (b := 20) (by omega) (by omega)) (yl_is (r := 1) hG hT hv hf (by omega) ⟨by omega, by omega⟩ _ (fun e v' hv' hk' => ?_) (fun e v' hv' hk' => ?_))
    · have skip : ¬ lk_n (pl_r G L K) (pl_c G L K) (pl_w V) f c n x → match v' with | (f_np, f_built, f_some, f_empty, f_wn, f_nt, a_pRule, a_pScope, a_pLen, a_sym, a_role, a_first, a_follow, a_kind, a_val, a_len, a_word, a_reach, a_beyond, a_way, a_known, a_bad, a_part, a_scopes, a_inner, a_tRule, a_tFrom, a_tTo, a_before) => wY_firstIn_6 post (nI f) (nI c - 1) (nI n) (d + 1) (nI (cn (fun x => pl_r G L K f x = 1) (x + 1))) (nI (x + 1)) f_np f_built f_some f_empty f_wn f_nt a_pRule a_pScope a_pLen a_sym a_role a_first a_follow a_kind a_val a_len a_word a_reach a_beyond a_way a_known a_bad a_part a_scopes a_inner a_tRule a_tFrom a_tTo a_before := fun h => ih (x + 1) v' (by omega) hv' (Or.inr hk') (fun q v2 z1 z2 z3 => hP q v2 (by rw [lq_f h]; exact z1) z2 z3)
      have hit : lk_n (pl_r G L K) (pl_c G L K) (pl_w V) f c n x → post (nI (f * 32 + cn (fun x => pl_r G L K f x = 1) x)) v' := fun h => by
        have := hP x v' (lq_t h).symm hv' hk'
        rw [if_pos (by omega)] at this
        exact this
      obtain ⟨f_np, f_built, f_some, f_empty, f_wn, f_nt, a_pRule, a_pScope, a_pLen, a_sym, a_role, a_first, a_follow, a_kind, a_val, a_len, a_word, a_reach, a_beyond, a_way, a_known, a_bad, a_part, a_scopes, a_inner, a_tRule, a_tFrom, a_tTo, a_before⟩ := v'
      obtain ⟨hd, hxl⟩ := pl_t (G := G) (L := L) (K := K) hG (f := f) (x := x) (by omega)
      have l := hT.1 f hf
      have cI : (nI (f * 20 + x)).toNatClampNeg = f * 20 + x := nI_clamp (by omega)
      have iI : vp_in (nI (f * 20 + x)) 80 := vp_in_nI (by omega) (by omega)
      have e1 : a_inner (f * 20 + x) = nI (pl_c G L K f x) - 1 := ((hk'.2.2 hd).1 x hxl).2
      have e2 : a_val (f * 20 + x) = nI (V (f * 20 + x)) := (hv'.1.2.2.1.2 _ (by omega)).2
      have c7 := lk_s1 (pl_s (x := x) hG hT hf)
      have w16 := (hT.2 (f * 20 + x) (by omega)).2
      rw [cn_s, b01_t e] at skip
      dsimp only at skip ⊢
      rw [ba_20x, cI, e1, e2, ba_32x]
      exact br_f (by decide) ⟨iI, ek_if (lk_c2 (by omega) (by omega)) (fun z => ⟨iI, pk_eq (V (f * 20 + x)) n (fun y => hit ⟨e, y, z⟩) (fun y => nm_r (nI_1 _) (nm_r (nI_1 _) (skip (fun t => y t.2.1))))⟩) (fun z => nm_r (nI_1 _) (nm_r (nI_1 _) (skip (fun t => z t.2.2))))⟩
    · have q := ih (x + 1) v' (by omega) hv' (Or.inr hk') (fun q v2 z1 z2 z3 => hP q v2 (by rw [lq_f (fun t => e t.1)]; exact z1) z2 z3)
      obtain ⟨f_np, f_built, f_some, f_empty, f_wn, f_nt, a_pRule, a_pScope, a_pLen, a_sym, a_role, a_first, a_follow, a_kind, a_val, a_len, a_word, a_reach, a_beyond, a_way, a_known, a_bad, a_part, a_scopes, a_inner, a_tRule, a_tFrom, a_tTo, a_before⟩ := v'
      rw [cn_s, b01_f e, Nat.add_zero] at q
      exact br_t rfl (nm_r (nI_1 _) q)
theorem yl_fi {v : SY} (hG : gm_gd G) (hT : tx_ok L K V) (hY : ry_Q G L K V B S v) {f c n : Nat} (hf : f < 4) (hc : c < 700) (hn : n < 16) (post : Int32 → SY → Prop) (hP : ∀ v', ry_Q G L K V B S v' → ry_K G L K f v' → post (if lq (lk_n (pl_r G L K) (pl_c G L K) (pl_w V) f c n) 20 0 < 20 then nI (f * 32 + cn (fun x => pl_r G L K f x = 1) (lq (lk_n (pl_r G L K) (pl_c G L K) (pl_w V) f c n) 20 0)) else -1) v') : wpY_firstIn post v (nI f) (nI c - 1) (nI n) := by
  obtain ⟨f_np, f_built, f_some, f_empty, f_wn, f_nt, a_pRule, a_pScope, a_pLen, a_sym, a_role, a_first, a_follow, a_kind, a_val, a_len, a_word, a_reach, a_beyond, a_way, a_known, a_bad, a_part, a_scopes, a_inner, a_tRule, a_tFrom, a_tTo, a_before⟩ := v
  unfold wpY_firstIn
  dsimp only
  exact ⟨20 + 1, yl_f6 hG hT hf hc hn post 20 0 _ (by omega) hY (Or.inl rfl) (fun q v' z1 z2 z3 => by subst z1; exact hP v' z2 z3)⟩
theorem lw_n {R : Nat → Nat → Nat} {g q : Nat} (hg : g < 4) (hq : q < 20) : lk_w R (g * 20 + q) = nI (g * 32 + cn (fun x => R g x = 1) q) := by
  unfold lk_w
  rw [if_pos (by omega), show (g * 20 + q) / 20 = g from by omega, show (g * 20 + q) % 20 = q from by omega]
theorem lw_p {R : Nat → Nat → Nat} {g q : Nat} (hg : g < 4) (hq : q < 20) : 0 ≤ nI (g * 32 + cn (fun x => R g x = 1) q) := by
  have := cn_le (fun x => R g x = 1) q
  exact nI_pos' (by omega)
/-- the imports -/
theorem yl_k89 (hG : gm_gd G) (hT : tx_ok L K V) {f n : Nat} (hf : f < 4) (hn : n < 16) (post : Int32 → SY → Prop) :
    ∀ d i v, i + d = 20 → ry_Q G L K V B S v → (∀ q v', q = lq (lk_a (pl_r G L K) (pl_c G L K) (pl_w V) f n) d i → ry_Q G L K V B S v' → post (lk_w (pl_r G L K) (lk_e (pl_r G L K) (pl_c G L K) (pl_w V) f n q)) v') → match v with | (f_np, f_built, f_some, f_empty, f_wn, f_nt, a_pRule, a_pScope, a_pLen, a_sym, a_role, a_first, a_follow, a_kind, a_val, a_len, a_word, a_reach, a_beyond, a_way, a_known, a_bad, a_part, a_scopes, a_inner, a_tRule, a_tFrom, a_tTo, a_before) => wY_link_89 post (nI f) (nI n) (d + 2) (-1) (nI i) f_np f_built f_some f_empty f_wn f_nt a_pRule a_pScope a_pLen a_sym a_role a_first a_follow a_kind a_val a_len a_word a_reach a_beyond a_way a_known a_bad a_part a_scopes a_inner a_tRule a_tFrom a_tTo a_before := by
  intro d
  induction d with
  | zero =>
    intro i v hi hv hP
    obtain ⟨f_np, f_built, f_some, f_empty, f_wn, f_nt, a_pRule, a_pScope, a_pLen, a_sym, a_role, a_first, a_follow, a_kind, a_val, a_len, a_word, a_reach, a_beyond, a_way, a_known, a_bad, a_part, a_scopes, a_inner, a_tRule, a_tFrom, a_tTo, a_before⟩ := v
    have e : i = 20 := by omega
    subst e
    have := hP 20 _ rfl hv
    unfold lk_e lk_w at this
    rw [if_neg (show ¬ (20 < 20) from by omega), if_neg (by omega)] at this
    dsimp only
    rw [wY_link_89]
    exact br_t (nI_le (a := 20) (by omega) (by omega)) this
  | succ d ih =>
    intro i v hi hv hP
    obtain ⟨f_np, f_built, f_some, f_empty, f_wn, f_nt, a_pRule, a_pScope, a_pLen, a_sym, a_role, a_first, a_follow, a_kind, a_val, a_len, a_word, a_reach, a_beyond, a_way, a_known, a_bad, a_part, a_scopes, a_inner, a_tRule, a_tFrom, a_tTo, a_before⟩ := v
    have skip : ¬ lk_a (pl_r G L K) (pl_c G L K) (pl_w V) f n i → ∀ v', ry_Q G L K V B S v' → match v' with | (f_np, f_built, f_some, f_empty, f_wn, f_nt, a_pRule, a_pScope, a_pLen, a_sym, a_role, a_first, a_follow, a_kind, a_val, a_len, a_word, a_reach, a_beyond, a_way, a_known, a_bad, a_part, a_scopes, a_inner, a_tRule, a_tFrom, a_tTo, a_before) => wY_link_89 post (nI f) (nI n) (d + 2) (-1) (nI (i + 1)) f_np f_built f_some f_empty f_wn f_nt a_pRule a_pScope a_pLen a_sym a_role a_first a_follow a_kind a_val a_len a_word a_reach a_beyond a_way a_known a_bad a_part a_scopes a_inner a_tRule a_tFrom a_tTo a_before := fun h v' hv' => ih (i + 1) v' (by omega) hv' (fun q v2 z1 z2 => hP q v2 (by rw [lq_f h]; exact z1) z2)
    dsimp only
    rw [wY_link_89]
    refine br_f (nI_ge (b := 20) (by omega) (by omega)) (br_f (by decide) (yl_is (r := 3) hG hT hv hf (by omega) ⟨by omega, by omega⟩ _ (fun e v' hv' hk' => ?_) (fun e v' hv' hk' => ?_)))
    · obtain ⟨f_np, f_built, f_some, f_empty, f_wn, f_nt, a_pRule, a_pScope, a_pLen, a_sym, a_role, a_first, a_follow, a_kind, a_val, a_len, a_word, a_reach, a_beyond, a_way, a_known, a_bad, a_part, a_scopes, a_inner, a_tRule, a_tFrom, a_tTo, a_before⟩ := v'
      have cI : (nI (f * 20 + i)).toNatClampNeg = f * 20 + i := nI_clamp (by omega)
      have iI : vp_in (nI (f * 20 + i)) 80 := vp_in_nI (by omega) (by omega)
      have e2 : a_val (f * 20 + i) = nI (V (f * 20 + i)) := (hv'.1.2.2.1.2 _ (by omega)).2
      have w16 := (hT.2 (f * 20 + i) (by omega)).2
      have e4 : nI (V (f * 20 + i)) &&& 3 = nI (V (f * 20 + i) % 4) := pk_andN (by omega) 2 (by decide)
      dsimp only
      rw [ba_20x, cI, e2, e4]
      refine br_f (by decide) ⟨iI, yl_fi (c := 0) hG hT hv' (by omega) (by omega) hn _ (fun v2 hv2 hk2 => ?_)⟩
      rcases Nat.lt_or_ge (lk_q (pl_r G L K) (pl_c G L K) (pl_w V) (V (f * 20 + i) % 4) n) 20 with z | z
      · have h := hP i v2 (lq_t ⟨e, z⟩).symm hv2
        unfold lk_e at h
        rw [if_pos (show i < 20 from by omega)] at h
        have h : post (lk_w (pl_r G L K) (V (f * 20 + i) % 4 * 20 + lk_q (pl_r G L K) (pl_c G L K) (pl_w V) (V (f * 20 + i) % 4) n)) v2 := h
        rw [lw_n (by omega) z] at h
        have p0 := lw_p (R := pl_r G L K) (show V (f * 20 + i) % 4 < 4 from by omega) z
        obtain ⟨f_np, f_built, f_some, f_empty, f_wn, f_nt, a_pRule, a_pScope, a_pLen, a_sym, a_role, a_first, a_follow, a_kind, a_val, a_len, a_word, a_reach, a_beyond, a_way, a_known, a_bad, a_part, a_scopes, a_inner, a_tRule, a_tFrom, a_tTo, a_before⟩ := v2
        rw [if_pos (show lq (lk_n (pl_r G L K) (pl_c G L K) (pl_w V) (V (f * 20 + i) % 4) 0 n) 20 0 < 20 from z)]
        refine nm_e ?_
        rw [wY_link_89]
        exact br_c (fun _ => h) (fun _ => br_t p0 h)
      · have h := skip (fun y => by have := y.2; have : lk_q (pl_r G L K) (pl_c G L K) (pl_w V) (V (f * 20 + i) % 4) n < 20 := this; omega) v2 hv2
        obtain ⟨f_np, f_built, f_some, f_empty, f_wn, f_nt, a_pRule, a_pScope, a_pLen, a_sym, a_role, a_first, a_follow, a_kind, a_val, a_len, a_word, a_reach, a_beyond, a_way, a_known, a_bad, a_part, a_scopes, a_inner, a_tRule, a_tFrom, a_tTo, a_before⟩ := v2
        rw [if_neg (show ¬ lq (lk_n (pl_r G L K) (pl_c G L K) (pl_w V) (V (f * 20 + i) % 4) 0 n) 20 0 < 20 from fun y => by have y : lk_q (pl_r G L K) (pl_c G L K) (pl_w V) (V (f * 20 + i) % 4) n < 20 := y; omega)]
        exact nm_r (nI_1 _) h
    · have q := skip (fun t => e t.1) v' hv'
      obtain ⟨f_np, f_built, f_some, f_empty, f_wn, f_nt, a_pRule, a_pScope, a_pLen, a_sym, a_role, a_first, a_follow, a_kind, a_val, a_len, a_word, a_reach, a_beyond, a_way, a_known, a_bad, a_part, a_scopes, a_inner, a_tRule, a_tFrom, a_tTo, a_before⟩ := v'
      exact br_t rfl (nm_r (nI_1 _) q)
/-- after the scopes: the root, then the imports -/
theorem yl_k72 (hG : gm_gd G) (hT : tx_ok L K V) {v : SY} (hv : ry_Q G L K V B S v) {f x : Nat} (hf : f < 4) (hx : x < 20) (post : Int32 → SY → Prop) (hP : ∀ v', ry_Q G L K V B S v' → post (lk_w (pl_r G L K) (lk_t (pl_r G L K) (pl_c G L K) (pl_w V) f x)) v') (hI : ∀ y, lk_c (pl_r G L K) (pl_c G L K) (pl_w V) f x (pl_w V f x) y → pl_c G L K f y = 0) : match v with | (f_np, f_built, f_some, f_empty, f_wn, f_nt, a_pRule, a_pScope, a_pLen, a_sym, a_role, a_first, a_follow, a_kind, a_val, a_len, a_word, a_reach, a_beyond, a_way, a_known, a_bad, a_part, a_scopes, a_inner, a_tRule, a_tFrom, a_tTo, a_before) => wY_link_72 post (nI f) (nI (pl_w V f x)) (-1) f_np f_built f_some f_empty f_wn f_nt a_pRule a_pScope a_pLen a_sym a_role a_first a_follow a_kind a_val a_len a_word a_reach a_beyond a_way a_known a_bad a_part a_scopes a_inner a_tRule a_tFrom a_tTo a_before := by
  have hn : pl_w V f x < 16 := (hT.2 (f * 20 + x) (by omega)).2
  obtain ⟨f_np, f_built, f_some, f_empty, f_wn, f_nt, a_pRule, a_pScope, a_pLen, a_sym, a_role, a_first, a_follow, a_kind, a_val, a_len, a_word, a_reach, a_beyond, a_way, a_known, a_bad, a_part, a_scopes, a_inner, a_tRule, a_tFrom, a_tTo, a_before⟩ := v
  dsimp only
  unfold wY_link_72
  refine br_f (by decide) (yl_fi (c := 0) hG hT hv hf (by omega) hn _ (fun v2 hv2 hk2 => ?_))
  obtain ⟨q1, q2, q3, q4⟩ := lq_s (P := lk_n (pl_r G L K) (pl_c G L K) (pl_w V) f 0 (pl_w V f x)) 20 0
  have cd : ∀ y, y < 20 → (lk_c (pl_r G L K) (pl_c G L K) (pl_w V) f x (pl_w V f x) y ↔ lk_n (pl_r G L K) (pl_c G L K) (pl_w V) f 0 (pl_w V f x) y) := fun y hy => ⟨fun z => ⟨z.2.1, z.2.2.1, hI y z⟩, fun z => ⟨hy, z.1, z.2.1, Or.inl z.2.2⟩⟩
  generalize lq (lk_n (pl_r G L K) (pl_c G L K) (pl_w V) f 0 (pl_w V f x)) 20 0 = q at q1 q2 q3 q4 ⊢
  rcases Nat.lt_or_ge q 20 with z | z
  · have hq := q3 (by omega)
    have hLI : lk_I (pl_r G L K) (pl_c G L K) (pl_w V) f x (pl_w V f x) q := by
      refine Or.inl ⟨(cd q z).mpr hq, fun y hy => Or.inr ⟨?_, ?_⟩⟩
      · rw [hq.2.2, hI y hy]
      · rcases Nat.lt_or_ge y q with t | t
        · exact absurd ((cd y hy.1).mp hy) (q4 y (by omega) t)
        · exact t
    have h := hP v2 hv2
    unfold lk_t at h
    rw [lk_ie hLI, if_pos z, lw_n hf z] at h
    have p0 := lw_p (R := pl_r G L K) hf z
    obtain ⟨f_np, f_built, f_some, f_empty, f_wn, f_nt, a_pRule, a_pScope, a_pLen, a_sym, a_role, a_first, a_follow, a_kind, a_val, a_len, a_word, a_reach, a_beyond, a_way, a_known, a_bad, a_part, a_scopes, a_inner, a_tRule, a_tFrom, a_tTo, a_before⟩ := v2
    rw [if_pos z]
    refine ⟨1, ?_⟩
    rw [wY_link_89]
    exact br_c (fun _ => h) (fun _ => br_t p0 h)
  · have hLI : lk_I (pl_r G L K) (pl_c G L K) (pl_w V) f x (pl_w V f x) 20 := Or.inr ⟨rfl, fun y hy => q4 y (by omega) (by have := hy.1; omega) ((cd y hy.1).mp hy)⟩
    have h : ∀ v', ry_Q G L K V B S v' → post (lk_w (pl_r G L K) (lk_m (pl_r G L K) (pl_c G L K) (pl_w V) f (pl_w V f x))) v' := fun v' hv' => by
      have h := hP v' hv'
      unfold lk_t at h
      rw [lk_ie hLI, if_neg (by omega)] at h
      exact h
    have g := yl_k89 hG hT hf hn post 20 0 v2 (by omega) hv2 (fun q v' z1 z2 => by subst z1; exact h v' z2)
    obtain ⟨f_np, f_built, f_some, f_empty, f_wn, f_nt, a_pRule, a_pScope, a_pLen, a_sym, a_role, a_first, a_follow, a_kind, a_val, a_len, a_word, a_reach, a_beyond, a_way, a_known, a_bad, a_part, a_scopes, a_inner, a_tRule, a_tFrom, a_tTo, a_before⟩ := v2
    rw [if_neg (by omega)]
    exact ⟨20 + 2, g⟩
theorem yl_k18 (hG : gm_gd G) (hT : tx_ok L K V) {f x : Nat} (hf : f < 4) (hx : x < 20) (hd : dr_D G (tx_w L K f) 0 0 (L f)) (post : Int32 → SY → Prop) (hP : ∀ v', ry_Q G L K V B S v' → post (lk_w (pl_r G L K) (lk_t (pl_r G L K) (pl_c G L K) (pl_w V) f x)) v') :
    ∀ d s v, s + d = 21 → 1 ≤ s → ry_Q G L K V B S v → ry_K G L K f v → (∀ y, lk_c (pl_r G L K) (pl_c G L K) (pl_w V) f x (pl_w V f x) y → s ≤ lk_z (pl_c G L K f y)) → match v with | (f_np, f_built, f_some, f_empty, f_wn, f_nt, a_pRule, a_pScope, a_pLen, a_sym, a_role, a_first, a_follow, a_kind, a_val, a_len, a_word, a_reach, a_beyond, a_way, a_known, a_bad, a_part, a_scopes, a_inner, a_tRule, a_tFrom, a_tTo, a_before) => wY_link_18 post (nI f) (nI x) (nI (pl_w V f x)) (d + 2) (-1) (nI s) f_np f_built f_some f_empty f_wn f_nt a_pRule a_pScope a_pLen a_sym a_role a_first a_follow a_kind a_val a_len a_word a_reach a_beyond a_way a_known a_bad a_part a_scopes a_inner a_tRule a_tFrom a_tTo a_before := by
  have hn : pl_w V f x < 16 := (hT.2 (f * 20 + x) (by omega)).2
  have l := hT.1 f hf
  -- the code of a definition with a scope is a scope
  have code : ∀ y, ¬ pl_c G L K f y = 0 → ∃ i j, sc_S G (tx_w L K f) (L f) i j ∧ pl_c G L K f y = 32 * i + j ∧ i < j ∧ j ≤ 20 := by
    intro y hy
    rcases pc_m hG tx_wn hd y with ⟨z, _⟩ | ⟨i, j, z, e⟩
    · exact absurd z hy
    · have q := sc_len hG tx_wn z.1.1
      exact ⟨i, j, z.1.1, e, q.1, by omega⟩
  intro d
  induction d with
  | zero =>
    intro s v hs h1 hv hk hI
    have e : s = 21 := by omega
    subst e
    have g := yl_k72 hG hT hv hf hx post hP (fun y hy => by
      rcases Nat.eq_zero_or_pos (pl_c G L K f y) with z | z
      · exact z
      · have q := hI y hy
        obtain ⟨i, j, _, e, a, b⟩ := code y (by omega)
        unfold lk_z at q
        rw [if_neg (by omega)] at q
        omega)
    obtain ⟨f_np, f_built, f_some, f_empty, f_wn, f_nt, a_pRule, a_pScope, a_pLen, a_sym, a_role, a_first, a_follow, a_kind, a_val, a_len, a_word, a_reach, a_beyond, a_way, a_known, a_bad, a_part, a_scopes, a_inner, a_tRule, a_tFrom, a_tTo, a_before⟩ := v
    dsimp only
    rw [wY_link_18]
    exact br_t (nI_lt (a := 20) (by omega) (by omega)) g
  | succ d ih =>
    intro s v hs h1 hv hk hI
    have ih' := ih (s + 1)
    obtain ⟨f_np, f_built, f_some, f_empty, f_wn, f_nt, a_pRule, a_pScope, a_pLen, a_sym, a_role, a_first, a_follow, a_kind, a_val, a_len, a_word, a_reach, a_beyond, a_way, a_known, a_bad, a_part, a_scopes, a_inner, a_tRule, a_tFrom, a_tTo, a_before⟩ := v
    have hsp : ∀ i, i < 20 → gm_ms (a_scopes (f * 20 + i)) (fun t => sc_S G (tx_w L K f) (L f) i (t + 1)) := (hk.2.2 hd).2
    have hsc : ∀ i j, sc_S G (tx_w L K f) (L f) i j → j ≤ 20 := fun i j h => by have := sc_len hG tx_wn h; omega
    dsimp only
    rw [wY_link_18]
    refine br_f (nI_nlt (a := 20) (by omega) (by omega)) (br_f (by decide) (ym_ar hf hx ⟨h1, by omega⟩ hsc hsp _ (fun r hr => ?_)))
    rcases hr with ⟨i, r1, r2⟩ | ⟨r1, r2⟩
    · subst r2
      have q := sc_len hG tx_wn r1.1
      refine br_f (nI_pos (by omega)) ?_
      rw [ba_32x, nI_add, show i * 32 + i + s = 32 * i + (i + s) from by omega]
      refine yl_fi hG hT hv hf (by omega) hn _ (fun v2 hv2 hk2 => ?_)
      -- the candidates of this size are those of this code
      have same : ∀ y, lk_c (pl_r G L K) (pl_c G L K) (pl_w V) f x (pl_w V f x) y → lk_z (pl_c G L K f y) = s → pl_c G L K f y = 32 * i + (i + s) := by
        intro y hy hz
        have c0 : ¬ pl_c G L K f y = 0 := fun z => by
          unfold lk_z at hz
          rw [if_pos z] at hz
          omega
        obtain ⟨a, b, u1, u2, u3, u4⟩ := code y c0
        unfold lk_z at hz
        rw [if_neg c0] at hz
        have hh := hy.2.2.2.elim (fun z => absurd z c0) id
        have in1 : sc_in G (tx_w L K f) (L f) x a b := ⟨u1, by omega, by omega⟩
        have := sc_nest hG tx_wn in1 r1
        omega
      have mem : ∀ y, y < 20 → lk_n (pl_r G L K) (pl_c G L K) (pl_w V) f (32 * i + (i + s)) (pl_w V f x) y → lk_c (pl_r G L K) (pl_c G L K) (pl_w V) f x (pl_w V f x) y ∧ lk_z (pl_c G L K f y) = s := by
        intro y hy ⟨m1, m2, m3⟩
        have hxi := r1.2
        refine ⟨⟨hy, m1, m2, Or.inr ?_⟩, ?_⟩
        · rw [m3]; omega
        · rw [m3]
          unfold lk_z
          rw [if_neg (by omega)]
          omega
      obtain ⟨q1, q2, q3, q4⟩ := lq_s (P := lk_n (pl_r G L K) (pl_c G L K) (pl_w V) f (32 * i + (i + s)) (pl_w V f x)) 20 0
      generalize lq (lk_n (pl_r G L K) (pl_c G L K) (pl_w V) f (32 * i + (i + s)) (pl_w V f x)) 20 0 = q0 at q1 q2 q3 q4 ⊢
      rcases Nat.lt_or_ge q0 20 with z | z
      · obtain ⟨m1, m2⟩ := mem q0 z (q3 (by omega))
        have hLI : lk_I (pl_r G L K) (pl_c G L K) (pl_w V) f x (pl_w V f x) q0 := by
          refine Or.inl ⟨m1, fun y hy => ?_⟩
          have t := hI y hy
          rcases Nat.lt_or_ge s (lk_z (pl_c G L K f y)) with u | u
          · exact Or.inl (by omega)
          · refine Or.inr ⟨by omega, ?_⟩
            rcases Nat.lt_or_ge y q0 with p | p
            · exact absurd ⟨hy.2.1, hy.2.2.1, same y hy (by omega)⟩ (q4 y (by omega) p)
            · exact p
        have h := hP v2 hv2
        unfold lk_t at h
        rw [lk_ie hLI, if_pos z, lw_n hf z] at h
        have p0 := lw_p (R := pl_r G L K) hf z
        obtain ⟨f_np, f_built, f_some, f_empty, f_wn, f_nt, a_pRule, a_pScope, a_pLen, a_sym, a_role, a_first, a_follow, a_kind, a_val, a_len, a_word, a_reach, a_beyond, a_way, a_known, a_bad, a_part, a_scopes, a_inner, a_tRule, a_tFrom, a_tTo, a_before⟩ := v2
        rw [if_pos z]
        refine nm_e ?_
        have fin : wY_link_72 post (nI f) (nI (pl_w V f x)) (nI (f * 32 + cn (fun x => pl_r G L K f x = 1) q0)) f_np f_built f_some f_empty f_wn f_nt a_pRule a_pScope a_pLen a_sym a_role a_first a_follow a_kind a_val a_len a_word a_reach a_beyond a_way a_known a_bad a_part a_scopes a_inner a_tRule a_tFrom a_tTo a_before := by
          unfold wY_link_72
          refine br_t p0 ⟨1, ?_⟩
          rw [wY_link_89]
          exact br_c (fun _ => h) (fun _ => br_t p0 h)
        rw [wY_link_18]
        exact br_c (fun _ => fin) (fun _ => br_t p0 fin)
      · have g := ih' v2 (by omega) (by omega) hv2 hk2 (fun y hy => by
          have t := hI y hy
          rcases Nat.lt_or_ge s (lk_z (pl_c G L K f y)) with u | u
          · exact u
          · exact absurd ⟨hy.2.1, hy.2.2.1, same y hy (by omega)⟩ (q4 y (by omega) (by have := hy.1; omega)))
        obtain ⟨f_np, f_built, f_some, f_empty, f_wn, f_nt, a_pRule, a_pScope, a_pLen, a_sym, a_role, a_first, a_follow, a_kind, a_val, a_len, a_word, a_reach, a_beyond, a_way, a_known, a_bad, a_part, a_scopes, a_inner, a_tRule, a_tFrom, a_tTo, a_before⟩ := v2
        rw [if_neg (by omega)]
        exact nm_r (nI_1 _) g
    · subst r2
      refine br_t (by decide) (nm_r (nI_1 _) (ih' _ (by omega) (by omega) hv hk (fun y hy => ?_)))
      have t := hI y hy
      rcases Nat.lt_or_ge s (lk_z (pl_c G L K f y)) with u | u
      · exact u
      · exfalso
        have hz : lk_z (pl_c G L K f y) = s := by omega
        have c0 : ¬ pl_c G L K f y = 0 := fun z => by
          unfold lk_z at hz
          rw [if_pos z] at hz
          omega
        obtain ⟨a, b, u1, u2, u3, u4⟩ := code y c0
        unfold lk_z at hz
        rw [if_neg c0] at hz
        have hh := hy.2.2.2.elim (fun z => absurd z c0) id
        have eb : b = a + s := by omega
        subst eb
        exact r1 a ⟨u1, by omega, by omega⟩
theorem yl_link {v : SY} (hG : gm_gd G) (hT : tx_ok L K V) (hY : ry_Q G L K V B S v) {f x : Nat} (hf : f < 4) (hx : x < 20) (hk : ry_K G L K f v) (hd : dr_D G (tx_w L K f) 0 0 (L f)) (post : Int32 → SY → Prop) (hP : ∀ v', ry_Q G L K V B S v' → post (lk_w (pl_r G L K) (lk_t (pl_r G L K) (pl_c G L K) (pl_w V) f x)) v') : wpY_link post v (nI f) (nI x) := by
  have g := yl_k18 hG hT hf hx hd post hP 20 1 v (by omega) (by omega) hY hk (fun y hy => by
    have := pl_s (x := y) hG hT hf
    unfold lk_z
    rcases this with z | ⟨i, j, a, b, e⟩
    · rw [if_pos z]; omega
    · split <;> omega)
  obtain ⟨f_np, f_built, f_some, f_empty, f_wn, f_nt, a_pRule, a_pScope, a_pLen, a_sym, a_role, a_first, a_follow, a_kind, a_val, a_len, a_word, a_reach, a_beyond, a_way, a_known, a_bad, a_part, a_scopes, a_inner, a_tRule, a_tFrom, a_tTo, a_before⟩ := v
  have cI : (nI (f * 20 + x)).toNatClampNeg = f * 20 + x := nI_clamp (by omega)
  unfold wpY_link
  dsimp only
  rw [ba_20x, cI]
  exact ⟨vp_in_nI (by omega) (by omega), nm_r (hY.1.2.2.1.2 _ (by omega)).2 ⟨20 + 2, g⟩⟩
/-! duplicates -/
theorem yl_d7 (hG : gm_gd G) (hT : tx_ok L K V) {f : Nat} (hf : f < 4) (post : Int32 → SY → Prop) (hP : ∀ v, ry_Q G L K V B S v → post (nI (cn (lk_u (pl_r G L K) (pl_c G L K) (pl_w V) f) 20)) v) :
    ∀ d x v, x + d = 20 → ry_Q G L K V B S v → match v with | (f_np, f_built, f_some, f_empty, f_wn, f_nt, a_pRule, a_pScope, a_pLen, a_sym, a_role, a_first, a_follow, a_kind, a_val, a_len, a_word, a_reach, a_beyond, a_way, a_known, a_bad, a_part, a_scopes, a_inner, a_tRule, a_tFrom, a_tTo, a_before) => wY_duplicates_7 post (nI f) (d + 1) (nI (cn (lk_u (pl_r G L K) (pl_c G L K) (pl_w V) f) x)) (nI (cn (fun x => pl_r G L K f x = 1) x)) (nI x) f_np f_built f_some f_empty f_wn f_nt a_pRule a_pScope a_pLen a_sym a_role a_first a_follow a_kind a_val a_len a_word a_reach a_beyond a_way a_known a_bad a_part a_scopes a_inner a_tRule a_tFrom a_tTo a_before := by
  intro d
  induction d with
  | zero =>
    intro x v hx hv
    obtain ⟨f_np, f_built, f_some, f_empty, f_wn, f_nt, a_pRule, a_pScope, a_pLen, a_sym, a_role, a_first, a_follow, a_kind, a_val, a_len, a_word, a_reach, a_beyond, a_way, a_known, a_bad, a_part, a_scopes, a_inner, a_tRule, a_tFrom, a_tTo, a_before⟩ := v
    have e : x = 20 := by omega
    subst e
    dsimp only
    rw [wY_duplicates_7]
    exact br_t (nI_le (a := 20) (by omega) (by omega)) (hP _ hv)
  | succ d ih =>
    intro x v hx hv
    have ih' := ih (x + 1)
    obtain ⟨f_np, f_built, f_some, f_empty, f_wn, f_nt, a_pRule, a_pScope, a_pLen, a_sym, a_role, a_first, a_follow, a_kind, a_val, a_len, a_word, a_reach, a_beyond, a_way, a_known, a_bad, a_part, a_scopes, a_inner, a_tRule, a_tFrom, a_tTo, a_before⟩ := v
    dsimp only
    rw [wY_duplicates_7]
    refine br_f (nI_ge (b := 20) (by omega) (by omega)) (br_f (by rw [hv.1.1]; decide) (ym_isf _ (fun hn => absurd ⟨f, hf, rfl⟩ hn) (fun _ _ _ => br_f (by decide) (yl_is (r := 1) hG hT hv hf (by omega) ⟨by omega, by omega⟩ _ (fun e v' hv' hk' => ?_) (fun e v' hv' hk' => ?_)))))
    · obtain ⟨f_np, f_built, f_some, f_empty, f_wn, f_nt, a_pRule, a_pScope, a_pLen, a_sym, a_role, a_first, a_follow, a_kind, a_val, a_len, a_word, a_reach, a_beyond, a_way, a_known, a_bad, a_part, a_scopes, a_inner, a_tRule, a_tFrom, a_tTo, a_before⟩ := v'
      obtain ⟨hd, hxl⟩ := pl_t (G := G) (L := L) (K := K) hG (f := f) (x := x) (by omega)
      have cI : (nI (f * 20 + x)).toNatClampNeg = f * 20 + x := nI_clamp (by omega)
      have iI : vp_in (nI (f * 20 + x)) 80 := vp_in_nI (by omega) (by omega)
      have e1 : a_inner (f * 20 + x) = nI (pl_c G L K f x) - 1 := ((hk'.2.2 hd).1 x hxl).2
      have e2 : a_val (f * 20 + x) = nI (pl_w V f x) := (hv'.1.2.2.1.2 _ (by omega)).2
      have c7 := lk_s1 (pl_s (x := x) hG hT hf)
      have w16 : pl_w V f x < 16 := (hT.2 (f * 20 + x) (by omega)).2
      have cl := cn_le (fun x => pl_r G L K f x = 1) x
      dsimp only
      rw [ba_20x, cI, e1, e2, ba_32x]
      refine br_f (by decide) ⟨iI, iI, yl_fi hG hT hv' hf (by omega) w16 _ (fun v2 hv2 hk2 => ?_)⟩
      have q := ih' v2 (by omega) hv2
      rw [cn_s, cn_s (fun x => pl_r G L K f x = 1), b01_t e] at q
      obtain ⟨q1, q2, q3, q4⟩ := lq_s (P := lk_n (pl_r G L K) (pl_c G L K) (pl_w V) f (pl_c G L K f x) (pl_w V f x)) 20 0
      have hx0 : lk_n (pl_r G L K) (pl_c G L K) (pl_w V) f (pl_c G L K f x) (pl_w V f x) x := ⟨e, rfl, rfl⟩
      generalize lq (lk_n (pl_r G L K) (pl_c G L K) (pl_w V) f (pl_c G L K f x) (pl_w V f x)) 20 0 = q0 at q1 q2 q3 q4 ⊢
      have q0x : q0 ≤ x := by
        rcases Nat.lt_or_ge x q0 with t | t
        · exact absurd hx0 (q4 x (by omega) t)
        · exact t
      obtain ⟨m1, m2, m3⟩ := q3 (by omega)
      have cl0 := cn_le (fun x => pl_r G L K f x = 1) q0
      rw [if_pos (show q0 < 20 from by omega)]
      rcases Nat.lt_or_ge q0 x with t | t
      · have u : lk_u (pl_r G L K) (pl_c G L K) (pl_w V) f x := ⟨e, q0, t, m1, m3, m2⟩
        have lt : cn (fun x => pl_r G L K f x = 1) (q0 + 1) ≤ cn (fun x => pl_r G L K f x = 1) x := by
          have : ∀ k, cn (fun x => pl_r G L K f x = 1) (q0 + 1) ≤ cn (fun x => pl_r G L K f x = 1) (q0 + 1 + k) := by
            intro k
            induction k with
            | zero => exact Nat.le_refl _
            | succ k ik =>
              rw [show q0 + 1 + (k + 1) = q0 + 1 + k + 1 from by omega, cn_s _ (q0 + 1 + k)]
              omega
          have := this (x - (q0 + 1))
          rw [show q0 + 1 + (x - (q0 + 1)) = x from by omega] at this
          exact this
        rw [cn_s, b01_t m1] at lt
        rw [b01_t u] at q
        obtain ⟨f_np, f_built, f_some, f_empty, f_wn, f_nt, a_pRule, a_pScope, a_pLen, a_sym, a_role, a_first, a_follow, a_kind, a_val, a_len, a_word, a_reach, a_beyond, a_way, a_known, a_bad, a_part, a_scopes, a_inner, a_tRule, a_tFrom, a_tTo, a_before⟩ := v2
        refine br_f (fun z => ?_) (nm_r (nI_1 _) (nm_r (nI_1 _) (nm_r (nI_1 _) q)))
        have := (nI_eq (by omega) (by omega)).mp z
        omega
      · have ex : q0 = x := by omega
        subst ex
        have u : ¬ lk_u (pl_r G L K) (pl_c G L K) (pl_w V) f q0 := fun ⟨_, y, z1, z2, z3, z4⟩ => q4 y (by omega) z1 ⟨z2, z4, z3⟩
        rw [b01_f u, Nat.add_zero] at q
        obtain ⟨f_np, f_built, f_some, f_empty, f_wn, f_nt, a_pRule, a_pScope, a_pLen, a_sym, a_role, a_first, a_follow, a_kind, a_val, a_len, a_word, a_reach, a_beyond, a_way, a_known, a_bad, a_part, a_scopes, a_inner, a_tRule, a_tFrom, a_tTo, a_before⟩ := v2
        exact br_t rfl (nm_r (nI_1 _) (nm_r (nI_1 _) q))
    · have q := ih' v' (by omega) hv'
      obtain ⟨f_np, f_built, f_some, f_empty, f_wn, f_nt, a_pRule, a_pScope, a_pLen, a_sym, a_role, a_first, a_follow, a_kind, a_val, a_len, a_word, a_reach, a_beyond, a_way, a_known, a_bad, a_part, a_scopes, a_inner, a_tRule, a_tFrom, a_tTo, a_before⟩ := v'
      rw [cn_s, cn_s (fun x => pl_r G L K f x = 1), b01_f e, b01_f (fun z : lk_u (pl_r G L K) (pl_c G L K) (pl_w V) f x => e z.1), Nat.add_zero, Nat.add_zero] at q
      exact br_t rfl (nm_r (nI_1 _) q)
theorem yl_dup {v : SY} (hG : gm_gd G) (hT : tx_ok L K V) (hY : ry_Q G L K V B S v) {v1 : Int32} (post : Int32 → SY → Prop) (h0 : (¬ ∃ f, f < 4 ∧ v1 = nI f) → post 0 v) (h1 : ∀ f, f < 4 → v1 = nI f → ∀ v', ry_Q G L K V B S v' → post (nI (cn (lk_u (pl_r G L K) (pl_c G L K) (pl_w V) f) 20)) v') : wpY_duplicates post v v1 := by
  rcases Classical.em (∃ f, f < 4 ∧ v1 = nI f) with ⟨f, hf, e⟩ | hn
  · subst e
    have g := yl_d7 hG hT hf post (h1 f hf rfl) 20 0 v (by omega) hY
    obtain ⟨f_np, f_built, f_some, f_empty, f_wn, f_nt, a_pRule, a_pScope, a_pLen, a_sym, a_role, a_first, a_follow, a_kind, a_val, a_len, a_word, a_reach, a_beyond, a_way, a_known, a_bad, a_part, a_scopes, a_inner, a_tRule, a_tFrom, a_tTo, a_before⟩ := v
    exact ⟨20 + 1, g⟩
  · obtain ⟨f_np, f_built, f_some, f_empty, f_wn, f_nt, a_pRule, a_pScope, a_pLen, a_sym, a_role, a_first, a_follow, a_kind, a_val, a_len, a_word, a_reach, a_beyond, a_way, a_known, a_bad, a_part, a_scopes, a_inner, a_tRule, a_tFrom, a_tTo, a_before⟩ := v
    refine ⟨1, ?_⟩
    rw [wY_duplicates_7]
    exact br_f (by decide) (br_f (by rw [hY.1.1]; decide) (ym_isf _ (fun _ => br_t rfl (h0 hn)) (fun f hf e => absurd ⟨f, hf, e⟩ hn)))
/-! unresolved -/
theorem yl_u18 (hG : gm_gd G) (hT : tx_ok L K V) {f : Nat} (hf : f < 4) (post : Int32 → SY → Prop) (J11 : _) (hJ : ∀ v, ry_Q G L K V B S v → match v with | (f_np, f_built, f_some, f_empty, f_wn, f_nt, a_pRule, a_pScope, a_pLen, a_sym, a_role, a_first, a_follow, a_kind, a_val, a_len, a_word, a_reach, a_beyond, a_way, a_known, a_bad, a_part, a_scopes, a_inner, a_tRule, a_tFrom, a_tTo, a_before) => J11 (nI (cn (lk_v (pl_r G L K) (pl_c G L K) (pl_w V)) (f * 20 + 20))) (nI (f + 1)) f_np f_built f_some f_empty f_wn f_nt a_pRule a_pScope a_pLen a_sym a_role a_first a_follow a_kind a_val a_len a_word a_reach a_beyond a_way a_known a_bad a_part a_scopes a_inner a_tRule a_tFrom a_tTo a_before) :
    ∀ d x v, x + d = 20 → ry_Q G L K V B S v → match v with | (f_np, f_built, f_some, f_empty, f_wn, f_nt, a_pRule, a_pScope, a_pLen, a_sym, a_role, a_first, a_follow, a_kind, a_val, a_len, a_word, a_reach, a_beyond, a_way, a_known, a_bad, a_part, a_scopes, a_inner, a_tRule, a_tFrom, a_tTo, a_before) => wY_unresolved_18 post J11 (nI f) (d + 1) (nI (cn (lk_v (pl_r G L K) (pl_c G L K) (pl_w V)) (f * 20 + x))) (nI x) f_np f_built f_some f_empty f_wn f_nt a_pRule a_pScope a_pLen a_sym a_role a_first a_follow a_kind a_val a_len a_word a_reach a_beyond a_way a_known a_bad a_part a_scopes a_inner a_tRule a_tFrom a_tTo a_before := by
  intro d
  induction d with
  | zero =>
    intro x v hx hv
    have j := hJ v hv
    obtain ⟨f_np, f_built, f_some, f_empty, f_wn, f_nt, a_pRule, a_pScope, a_pLen, a_sym, a_role, a_first, a_follow, a_kind, a_val, a_len, a_word, a_reach, a_beyond, a_way, a_known, a_bad, a_part, a_scopes, a_inner, a_tRule, a_tFrom, a_tTo, a_before⟩ := v
    have e : x = 20 := by omega
    subst e
    dsimp only
    rw [wY_unresolved_18]
    exact br_t (nI_le (a := 20) (by omega) (by omega)) (nm_r (nI_1 _) j)
  | succ d ih =>
    intro x v hx hv
    have ih' := ih (x + 1)
    obtain ⟨f_np, f_built, f_some, f_empty, f_wn, f_nt, a_pRule, a_pScope, a_pLen, a_sym, a_role, a_first, a_follow, a_kind, a_val, a_len, a_word, a_reach, a_beyond, a_way, a_known, a_bad, a_part, a_scopes, a_inner, a_tRule, a_tFrom, a_tTo, a_before⟩ := v
    have e1 : (f * 20 + x) / 20 = f := by omega
    have e2 : (f * 20 + x) % 20 = x := by omega
    have no : ¬ lk_v (pl_r G L K) (pl_c G L K) (pl_w V) (f * 20 + x) → ∀ v', ry_Q G L K V B S v' → match v' with | (f_np, f_built, f_some, f_empty, f_wn, f_nt, a_pRule, a_pScope, a_pLen, a_sym, a_role, a_first, a_follow, a_kind, a_val, a_len, a_word, a_reach, a_beyond, a_way, a_known, a_bad, a_part, a_scopes, a_inner, a_tRule, a_tFrom, a_tTo, a_before) => wY_unresolved_18 post J11 (nI f) (d + 1) (nI (cn (lk_v (pl_r G L K) (pl_c G L K) (pl_w V)) (f * 20 + x))) (nI (x + 1)) f_np f_built f_some f_empty f_wn f_nt a_pRule a_pScope a_pLen a_sym a_role a_first a_follow a_kind a_val a_len a_word a_reach a_beyond a_way a_known a_bad a_part a_scopes a_inner a_tRule a_tFrom a_tTo a_before := fun h v' hv' => by
      have q := ih' v' (by omega) hv'
      rw [← Nat.add_assoc, cn_s, b01_f h, Nat.add_zero] at q
      exact q
    dsimp only
    rw [wY_unresolved_18]
    refine br_f (nI_ge (b := 20) (by omega) (by omega)) (yl_is (r := 2) hG hT hv hf (by omega) ⟨by omega, by omega⟩ _ (fun e v' hv' hk' => ?_) (fun e v' hv' hk' => ?_))
    · obtain ⟨hd, hxl⟩ := pl_t (G := G) (L := L) (K := K) hG (f := f) (x := x) (by omega)
      obtain ⟨f_np, f_built, f_some, f_empty, f_wn, f_nt, a_pRule, a_pScope, a_pLen, a_sym, a_role, a_first, a_follow, a_kind, a_val, a_len, a_word, a_reach, a_beyond, a_way, a_known, a_bad, a_part, a_scopes, a_inner, a_tRule, a_tFrom, a_tTo, a_before⟩ := v'
      refine br_f (by decide) (yl_link hG hT hv' hf (by omega) hk' hd _ (fun v2 hv2 => ?_))
      have t80 := lk_t80 (R := pl_r G L K) (C := pl_c G L K) (W := pl_w V) (f := f) (x := x) hf
      rcases Nat.lt_or_ge (lk_t (pl_r G L K) (pl_c G L K) (pl_w V) f x) 80 with z | z
      · have q := no (fun y => by have := y.2; rw [e1, e2] at this; omega) v2 hv2
        obtain ⟨f_np, f_built, f_some, f_empty, f_wn, f_nt, a_pRule, a_pScope, a_pLen, a_sym, a_role, a_first, a_follow, a_kind, a_val, a_len, a_word, a_reach, a_beyond, a_way, a_known, a_bad, a_part, a_scopes, a_inner, a_tRule, a_tFrom, a_tTo, a_before⟩ := v2
        unfold lk_w
        rw [if_pos z]
        have := cn_le (fun z => pl_r G L K (lk_t (pl_r G L K) (pl_c G L K) (pl_w V) f x / 20) z = 1) (lk_t (pl_r G L K) (pl_c G L K) (pl_w V) f x % 20)
        exact br_t (nI_pos' (by omega)) (nm_r (nI_1 _) q)
      · have q := ih' v2 (by omega) hv2
        rw [← Nat.add_assoc, cn_s, b01_t (show lk_v (pl_r G L K) (pl_c G L K) (pl_w V) (f * 20 + x) from ⟨by rw [e1, e2]; exact e, by rw [e1, e2]; omega⟩)] at q
        obtain ⟨f_np, f_built, f_some, f_empty, f_wn, f_nt, a_pRule, a_pScope, a_pLen, a_sym, a_role, a_first, a_follow, a_kind, a_val, a_len, a_word, a_reach, a_beyond, a_way, a_known, a_bad, a_part, a_scopes, a_inner, a_tRule, a_tFrom, a_tTo, a_before⟩ := v2
        unfold lk_w
        rw [if_neg (by omega)]
        exact br_f (by decide) (nm_r (nI_1 _) (nm_r (nI_1 _) q))
    · have q := no (fun y => e (by have := y.1; rw [e1, e2] at this; exact this)) v' hv'
      obtain ⟨f_np, f_built, f_some, f_empty, f_wn, f_nt, a_pRule, a_pScope, a_pLen, a_sym, a_role, a_first, a_follow, a_kind, a_val, a_len, a_word, a_reach, a_beyond, a_way, a_known, a_bad, a_part, a_scopes, a_inner, a_tRule, a_tFrom, a_tTo, a_before⟩ := v'
      exact br_t rfl (nm_r (nI_1 _) q)
theorem yl_u11 (hG : gm_gd G) (hT : tx_ok L K V) (post : Int32 → SY → Prop) (hP : ∀ v, ry_Q G L K V B S v → post (nI (cn (lk_v (pl_r G L K) (pl_c G L K) (pl_w V)) 80)) v) :
    ∀ d f v, f + d = 4 → ry_Q G L K V B S v → match v with | (f_np, f_built, f_some, f_empty, f_wn, f_nt, a_pRule, a_pScope, a_pLen, a_sym, a_role, a_first, a_follow, a_kind, a_val, a_len, a_word, a_reach, a_beyond, a_way, a_known, a_bad, a_part, a_scopes, a_inner, a_tRule, a_tFrom, a_tTo, a_before) => wY_unresolved_11 post (d + 1) (nI (cn (lk_v (pl_r G L K) (pl_c G L K) (pl_w V)) (f * 20))) (nI f) f_np f_built f_some f_empty f_wn f_nt a_pRule a_pScope a_pLen a_sym a_role a_first a_follow a_kind a_val a_len a_word a_reach a_beyond a_way a_known a_bad a_part a_scopes a_inner a_tRule a_tFrom a_tTo a_before := by
  intro d
  induction d with
  | zero =>
    intro f v hf hv
    obtain ⟨f_np, f_built, f_some, f_empty, f_wn, f_nt, a_pRule, a_pScope, a_pLen, a_sym, a_role, a_first, a_follow, a_kind, a_val, a_len, a_word, a_reach, a_beyond, a_way, a_known, a_bad, a_part, a_scopes, a_inner, a_tRule, a_tFrom, a_tTo, a_before⟩ := v
    have e : f = 4 := by omega
    subst e
    dsimp only
    rw [wY_unresolved_11]
    exact br_t (nI_le (a := 4) (by omega) (by omega)) (hP _ hv)
  | succ d ih =>
    intro f v hf hv
    have g := yl_u18 hG hT (f := f) (by omega) post (wY_unresolved_11 post (d + 1)) (fun v' hv' => by
      have q := ih (f + 1) v' (by omega) hv'
      rw [show (f + 1) * 20 = f * 20 + 20 from by omega] at q
      exact q) 20 0 v (by omega) hv
    obtain ⟨f_np, f_built, f_some, f_empty, f_wn, f_nt, a_pRule, a_pScope, a_pLen, a_sym, a_role, a_first, a_follow, a_kind, a_val, a_len, a_word, a_reach, a_beyond, a_way, a_known, a_bad, a_part, a_scopes, a_inner, a_tRule, a_tFrom, a_tTo, a_before⟩ := v
    dsimp only
    rw [wY_unresolved_11]
    exact br_f (nI_ge (b := 4) (by omega) (by omega)) ⟨20 + 1, g⟩
end
