/-! Y's tree: unfold -/
theorem tr_sym {G : gm_G} {w : Nat → Nat} {R : Nat → Nat → Nat → Prop} (hR : ∀ n i j, R n i j → dr_D G w n i j) {p i j x : Nat} (hx : x < j) : ∀ c m a, m + c = gm_l G p → dr_S G w p m 0 i a → a ≤ x → dr_sg G R w p c m a j → ∃ m' a' b', tr_C G w p i j m' a' b' ∧ dr_sy R w (gm_s G p m') a' b' ∧ a' ≤ x ∧ x < b' := by
  have hle : ∀ n i j, R n i j → i ≤ j := fun n i j h => dr_D_le _ _ _ (hR n i j h)
  intro c
  induction c with
  | zero => intro m a _ _ h1 h2; have h2 : a = j := h2; omega
  | succ c ih =>
    intro m a hm h0 h1 ⟨k, y, z⟩
    have y' : dr_sy (dr_D G w) w (gm_s G p m) a k := y.elim Or.inl (fun q => Or.inr ⟨q.1, hR _ _ _ q.2⟩)
    rcases Nat.lt_or_ge x k with q | q
    · refine ⟨m, a, k, ⟨by omega, h0, y', ?_⟩, y, h1, q⟩
      rw [show gm_l G p - (m + 1) = c from by omega]
      exact dr_sg_m1 hR z
    · exact ih (m + 1) k (by omega) (dr_sn h0 y') q z
theorem tr_ex {G : gm_G} {w : Nat → Nat} {len : Nat} : ∀ a k p i j x, tr_N G w len k p i j → dr_sg G (dr_L G w a) w p (gm_l G p) 0 i j → i ≤ x → x < j → ∃ k' p' m', tr_f G w len k' x p' m' := by
  intro a
  induction a with
  | zero =>
    intro k p i j x hN h h1 h2
    obtain ⟨m, a', b', hC, hy, q1, q2⟩ := tr_sym (fun _ _ _ z => ⟨0, z⟩) h2 (gm_l G p) 0 i (by omega) rfl h1 h
    rcases hy with ⟨y1, y2, y3⟩ | ⟨_, y⟩
    · subst y3
      have e : a' = x := by omega
      subst e
      exact ⟨k, p, m, i, j, hN, hC, y1⟩
    · exact y.elim
  | succ a ih =>
    intro k p i j x hN h h1 h2
    obtain ⟨m, a', b', hC, hy, q1, q2⟩ := tr_sym (fun _ _ _ z => ⟨a + 1, z⟩) h2 (gm_l G p) 0 i (by omega) rfl h1 h
    rcases hy with ⟨y1, y2, y3⟩ | ⟨y1, p', y2, y3, y4⟩
    · subst y3
      have e : a' = x := by omega
      subst e
      exact ⟨k, p, m, i, j, hN, hC, y1⟩
    · exact ih (k + 1) p' a' b' x ⟨p, i, j, m, hN, hC, by omega, y2, dr_sg_m1 (fun _ _ _ z => ⟨a, z⟩) y4⟩ y4 q1 q2
theorem tr_r {G : gm_G} (hG : gm_ok G) {w : Nat → Nat} {len : Nat} (hd : dr_D G w 0 0 len) : tr_N G w len 0 14 0 len := by
  refine ⟨rfl, rfl, rfl, dr_1 (Or.inr ⟨by rw [hG.2.2.2.2.1]; omega, ?_⟩)⟩
  rw [hG.2.2.2.2.1]
  exact hd
theorem tr_all {G : gm_G} (hG : gm_ok G) {w : Nat → Nat} {len x : Nat} (hd : dr_D G w 0 0 len) (hx : x < len) : ∃ k p m, tr_f G w len k x p m := by
  have h := tr_r hG hd
  have h2 := h.2.2.2
  obtain ⟨a, ha⟩ := dr_S_lv _ _ _ _ h2
  exact tr_ex a 0 14 0 len x h (by rw [hG.2.2.2.1]; exact ha) (Nat.zero_le _) hx
/-- a node that waits at place q of the stack, with its level -/
def yu_p (G : gm_G) (w : Nat → Nat) (len q a : Nat) (TR TF TT : Nat → Int32) : Prop := ∃ p i j k, yo_E TR TF TT q (gm_r G p) i j ∧ p < gm_n G ∧ tr_N G w len k p i j ∧ dr_sg G (dr_L G w a) w p (gm_l G p) 0 i j ∧ q + 3 * (a + 1) ≤ 378
def yu_w (nt : Nat) (TR TF TT : Nat → Int32) (n i j : Nat) : Prop := ∃ q, q < nt ∧ yo_E TR TF TT q n i j
def yu_d (G : gm_G) (w : Nat → Nat) (f nt : Nat) (TR TF TT PA SP : Nat → Int32) (Dn : Nat → Nat → Nat → Prop) (p i j : Nat) : Prop :=
  (∀ p' m a b, tr_C G w p i j m a b → gm_s G p m = 10 + gm_r G p' → p' < gm_n G → dr_S G w p' (gm_l G p') 0 a b → Dn p' a b ∨ yu_w nt TR TF TT (gm_r G p') a b) ∧ (∀ m x, tr_C G w p i j m x (x + 1) → gm_s G p m < 10 → PA (f * 20 + x) = nI (gm_o G p m)) ∧ (gm_k G p = 1 → i < j → bt (SP (f * 20 + i)) (j - 1) = true)
def yu_I (G : gm_G) (w : Nat → Nat) (len f nt : Nat) (TR TF TT PA SP : Nat → Int32) (Dn : Nat → Nat → Nat → Prop) : Prop :=
  (∀ p i j, tr_N G w len 1 p i j → Dn p i j ∨ yu_w nt TR TF TT (gm_r G p) i j) ∧ (∀ p i j k, Dn p i j → tr_N G w len k p i j → yu_d G w f nt TR TF TT PA SP Dn p i j) ∧ (∀ i t, i < 20 → t < 32 → bt (SP (f * 20 + i)) t = true → sc_S G w len i (t + 1))
theorem yu_st {G : gm_G} (hG : gm_gd G) {w : Nat → Nat} {len f q0 nt p i j k lv : Nat} (hwl : w len = 10) (hn : len ≤ 20) {TR TF TT PA SP TR' TF' TT' PA' SP' : Nat → Int32} {Dn : Nat → Nat → Nat → Prop} (hp : p < gm_n G) (hN : tr_N G w len k p i j) (hE : yo_E TR TF TT q0 (gm_r G p) i j) (hI : yu_I G w len f (q0 + 1) TR TF TT PA SP Dn) (hnt : q0 ≤ nt) (hpa : yo_p G w f p i j PA PA') (hsp : yo_s f (gm_k G p) i j SP SP') (hst : ∀ q, q < q0 → TR' q = TR q ∧ TF' q = TF q ∧ TT' q = TT q) (hc : yo_c G w f p i j lv q0 nt 0 TR' TF' TT' PA') : yu_I G w len f nt TR' TF' TT' PA' SP' (fun p' a b => Dn p' a b ∨ (p' = p ∧ a = i ∧ b = j)) := by
  obtain ⟨v, hS, hW, hij, hjl⟩ := tr_b hG hwl k p i j hN
  obtain ⟨i1, i2, i3⟩ := hI
  -- a waiting node stays, or is the one that was opened
  have keep : ∀ p' a b, p' < gm_n G → dr_S G w p' (gm_l G p') 0 a b → yu_w (q0 + 1) TR TF TT (gm_r G p') a b → a ≤ 20 → b ≤ 20 → (p' = p ∧ a = i ∧ b = j) ∨ yu_w nt TR' TF' TT' (gm_r G p') a b := by
    intro p' a b hp' hS' ⟨q, q1, q2, q3, q4⟩ ha hb
    rcases Nat.lt_or_ge q q0 with z | z
    · obtain ⟨s1, s2, s3⟩ := hst q z
      exact Or.inr ⟨q, by omega, s1.trans q2, s2.trans q3, s3.trans q4⟩
    · have e : q = q0 := by omega
      subst e
      have r6 := (hG.1.2.1 p hp).1
      have r6' := (hG.1.2.1 p' hp').1
      have e1 : gm_r G p' = gm_r G p := (nI_eq (by omega) (by omega)).mp (q2.symm.trans hE.1)
      have e2 : a = i := (nI_eq (by omega) (by omega)).mp (q3.symm.trans hE.2.1)
      have e3 : b = j := (nI_eq (by omega) (by omega)).mp (q4.symm.trans hE.2.2)
      subst e2 e3
      have P1 := ll_P hG.1 hS' (by rw [e1]; exact hW)
      have P2 := ll_P hG.1 hS hW
      exact Or.inl ⟨ll_un hG hp' hp e1 P1.2 P1.1 P2.1, rfl, rfl⟩
  refine ⟨fun p' a b hN' => ?_, fun p' a b k' hD hN' => ?_, fun x t hx ht h => ?_⟩
  · rcases i1 p' a b hN' with z | z
    · exact Or.inl (Or.inl z)
    · obtain ⟨_, hS', _, l1, l2⟩ := tr_b hG hwl 1 p' a b hN'
      have hp' : p' < gm_n G := by
        obtain ⟨_, _, _, _, _, _, _, h, _⟩ := hN'
        exact h
      rcases keep p' a b hp' hS' z (by omega) (by omega) with y | y
      · exact Or.inl (Or.inr y)
      · exact Or.inr y
  · obtain ⟨_, _, hW', m1, m2⟩ := tr_b hG hwl k' p' a b hN'
    rcases Classical.em (p' = p ∧ a = i ∧ b = j) with ⟨e1, e2, e3⟩ | hne
    · subst e1 e2 e3
      refine ⟨fun p2 m x y hC hs hp2 hS2 => ?_, fun m x hC hs => ((hc.2 m x (x + 1) (Nat.zero_le _) hC).2 hs), fun hk hlt => ?_⟩
      · obtain ⟨q, q1, q2, q3⟩ := (hc.2 m x y (Nat.zero_le _) hC).1 (by omega)
        rw [show gm_s G p' m - 10 = gm_r G p2 from by omega] at q3
        exact Or.inr ⟨q, q2, q3⟩
      · rw [hsp.1 ⟨hk, hlt⟩, pk_us]
        exact (ba_oone (by omega)).mpr (Or.inr rfl)
    · have hD0 : Dn p' a b := hD.elim id (fun z => absurd z hne)
      obtain ⟨d1, d2, d3⟩ := i2 p' a b k' hD0 hN'
      refine ⟨fun p2 m x y hC hs hp2 hS2 => ?_, fun m x hC hs => ?_, fun hk hlt => ?_⟩
      · have l := tr_Cle hC
        rcases d1 p2 m x y hC hs hp2 hS2 with z | z
        · exact Or.inl (Or.inl z)
        · rcases keep p2 x y hp2 hS2 z (by omega) (by omega) with u | u
          · exact Or.inl (Or.inr u)
          · exact Or.inr u
      · rcases hpa (f * 20 + x) with z | ⟨x', m', z1, z2, z3, z4⟩
        · rw [z]; exact d2 m x hC hs
        · have ex : x' = x := by omega
          subst ex
          have f1 : tr_f G w len k' x' p' m := ⟨a, b, hN', hC, hs⟩
          have f2 : tr_f G w len k x' p m' := ⟨i, j, hN, z2, z3⟩
          obtain ⟨_, e1, e2⟩ := tr_fu hG hwl f1 f2
          subst e1 e2
          exact z4
      · have := d3 hk hlt
        rcases Classical.em (gm_k G p = 1 ∧ i < j) with z | z
        · rw [hsp.1 z, ba_up]
          split
          · next e => rw [← e, b_or, this]; rfl
          · exact this
        · rw [hsp.2 z]; exact this
  · rcases Classical.em (gm_k G p = 1 ∧ i < j) with z | z
    · rw [hsp.1 z, ba_up] at h
      split at h
      · next e =>
        have ex : x = i := by omega
        subst ex
        rcases (ba_oone (by omega)).mp h with h | h
        · exact i3 x t hx ht h
        · subst h
          rw [show j - 1 + 1 = j from by omega]
          exact ⟨z.2, k, p, hN, z.1⟩
      · exact i3 x t hx ht h
    · rw [hsp.2 z] at h
      exact i3 x t hx ht h
theorem yu_end {G : gm_G} (hG : gm_gd G) {w : Nat → Nat} {len f : Nat} (hwl : w len = 10) (hn : len ≤ 20) (hd : dr_D G w 0 0 len) {TR TF TT PA SP : Nat → Int32} {Dn : Nat → Nat → Nat → Prop} (hI : yu_I G w len f 0 TR TF TT PA SP Dn) : (∀ x, x < len → PA (f * 20 + x) = nI (px_r G w len x)) ∧ ∀ i, i < 20 → gm_ms (SP (f * 20 + i)) (fun t => sc_S G w len i (t + 1)) := by
  have all : ∀ k p i j, tr_N G w len (k + 1) p i j → Dn p i j := by
    intro k
    induction k with
    | zero =>
      intro p i j h
      rcases hI.1 p i j h with z | ⟨q, z, _⟩
      · exact z
      · omega
    | succ k ih =>
      intro p i j ⟨P, I, J, m, a, b, c, d, e⟩
      rcases (hI.2.1 P I J (k + 1) (ih P I J a) a).1 p m i j b c d e with z | ⟨q, z, _⟩
      · exact z
      · omega
  refine ⟨fun x hx => ?_, fun i hi t ht => ⟨fun h => hI.2.2 i t hi ht h, fun ⟨h0, k, p, h1, h2⟩ => ?_⟩⟩
  · obtain ⟨k, p, m, hf⟩ := tr_all hG.1 hd hx
    rw [px_rt hG hwl hd hf]
    obtain ⟨i, j, a, b, c⟩ := hf
    cases k with
    | zero =>
      obtain ⟨e, _⟩ := a
      subst e
      have := b.1
      rw [hG.1.2.2.2.1] at this
      have e : m = 0 := by omega
      subst e
      rw [hG.1.2.2.2.2.1] at c
      omega
    | succ k => exact (hI.2.1 p i j (k + 1) (all k p i j a) a).2.1 m x b c
  · cases k with
    | zero =>
      obtain ⟨e, _⟩ := h1
      subst e
      rw [hG.1.2.2.2.2.2] at h2
      omega
    | succ k =>
      have := (hI.2.1 p i (t + 1) (k + 1) (all k p i (t + 1) h1) h1).2.2 h2 h0
      rw [Nat.add_sub_cancel] at this
      exact this
theorem yo_po {G : gm_G} {w : Nat → Nat} {f p i j : Nat} {PA PA' : Nat → Int32} (hj : j ≤ 20) (h : yo_p G w f p i j PA PA') : xo_r 20 f PA PA' := by
  intro y hy
  rcases h y with z | ⟨x, m, z, c, _⟩
  · exact z
  · have := tr_Cle c
    omega
theorem yo_so {f k i j : Nat} {SP SP' : Nat → Int32} (hj : j ≤ 20) (h : yo_s f k i j SP SP') : xo_r 20 f SP SP' := by
  rcases Classical.em (k = 1 ∧ i < j) with z | z
  · rw [h.1 z]; exact xo_ru (by omega)
  · rw [h.2 z]; exact xo_rr
/-! around -/
theorem ba_31 : ∀ k, k < 64 → nI k &&& 31 = nI (k % 32) &&& 31 := by decide +kernel
def ya_r (G : gm_G) (w : Nat → Nat) (len x s : Nat) (r : Int32) : Prop := (∃ i, sc_in G w len x i (i + s) ∧ r = nI i) ∨ ((∀ i, ¬ sc_in G w len x i (i + s)) ∧ r = -1)
section
variable {f_np f_built f_some f_empty f_wn f_nt : Int32} {a_pRule a_pScope a_pLen a_sym a_role a_first a_follow a_kind a_val a_len a_word a_reach a_beyond a_way a_known a_bad a_part a_scopes a_inner a_tRule a_tFrom a_tTo a_before : Nat → Int32} {G : gm_G}
theorem ym_ar16 {w : Nat → Nat} {len f x s : Nat} (hf : f < 4) (hx : x < 20) (hs : 1 ≤ s ∧ s ≤ 20) (hsc : ∀ i j, sc_S G w len i j → j ≤ 20) (hsp : ∀ i, i < 20 → gm_ms (a_scopes (f * 20 + i)) (fun t => sc_S G w len i (t + 1))) (post : Int32 → Prop) (hP : ∀ r, ya_r G w len x s r → post r) :
    ∀ d k, k + d = x + 1 → (∀ i, i < k → ¬ sc_in G w len x i (i + s)) → (x < k + s) → wY_around_16 post (nI f) (nI x) (nI s) f_np f_built f_some f_empty f_wn f_nt a_pRule a_pScope a_pLen a_sym a_role a_first a_follow a_kind a_val a_len a_word a_reach a_beyond a_way a_known a_bad a_part a_scopes a_inner a_tRule a_tFrom a_tTo a_before (d + 1) (nI k) := by
  intro d
  induction d with
  | zero =>
    intro k hk hI _
    rw [wY_around_16]
    dsimp only
    refine br_t (nI_lt (by omega) (by omega)) (hP _ (Or.inr ⟨fun i z => ?_, rfl⟩))
    rcases Nat.lt_or_ge i k with y | y
    · exact hI i y z
    · have := z.2.1; omega
  | succ d ih =>
    intro k hk hI hks
    have cI : (nI (f * 20 + k)).toNatClampNeg = f * 20 + k := nI_clamp (by omega)
    have hb : bt (a_scopes (f * 20 + k)) ((k + s - 1) % 32) = true ↔ sc_in G w len x k (k + s) := by
      rw [hsp k (by omega) _ (by omega)]
      dsimp only
      rcases Nat.lt_or_ge (k + s - 1) 32 with z | z
      · rw [Nat.mod_eq_of_lt z, show k + s - 1 + 1 = k + s from by omega]
        exact ⟨fun h => ⟨h, by omega, by omega⟩, fun h => h.1⟩
      · constructor
        · intro h
          have := h.1
          omega
        · intro h
          have := hsc _ _ h.1
          omega
    rw [wY_around_16]
    dsimp only
    rw [ba_20x, cI, nI_add, ba_m1 (by omega), ba_31 _ (by omega)]
    refine br_f (nI_nlt (by omega) (by omega)) ⟨vp_in_nI (by omega) (by omega), ?_⟩
    rcases Classical.em (sc_in G w len x k (k + s)) with z | z
    · exact br_f (by rw [ba_sh (by omega), hb.mpr z]; decide) (hP _ (Or.inl ⟨k, z, rfl⟩))
    · refine br_t ?_ (nm_r (nI_1 k) (ih (k + 1) (by omega) (fun i hi => ?_) (by omega)))
      · rw [ba_sh (by omega)]
        cases h : bt (a_scopes (f * 20 + k)) ((k + s - 1) % 32)
        · rfl
        · exact absurd (hb.mp h) z
      · rcases Nat.lt_or_ge i k with y | y
        · exact hI i y
        · have e : i = k := by omega
          subst e; exact z
theorem ym_ar {w : Nat → Nat} {len f x s : Nat} (hf : f < 4) (hx : x < 20) (hs : 1 ≤ s ∧ s ≤ 20) (hsc : ∀ i j, sc_S G w len i j → j ≤ 20) (hsp : ∀ i, i < 20 → gm_ms (a_scopes (f * 20 + i)) (fun t => sc_S G w len i (t + 1))) (post : Int32 → Prop) (hP : ∀ r, ya_r G w len x s r → post r) : wpY_around post (f_np, f_built, f_some, f_empty, f_wn, f_nt, a_pRule, a_pScope, a_pLen, a_sym, a_role, a_first, a_follow, a_kind, a_val, a_len, a_word, a_reach, a_beyond, a_way, a_known, a_bad, a_part, a_scopes, a_inner, a_tRule, a_tFrom, a_tTo, a_before) (nI f) (nI x) (nI s) := by
  unfold wpY_around
  dsimp only
  refine pk_le s x (fun h => nm_r (by rw [pk_sub h, nI_1]) ⟨s + 1, ?_⟩) (fun h => ⟨x + 1 + 1, ?_⟩)
  · refine ym_ar16 hf hx hs hsc hsp post hP s (x - s + 1) (by omega) (fun i hi z => ?_) (by omega)
    have := z.2.2; omega
  · exact ym_ar16 hf hx hs hsc hsp post hP (x + 1) 0 (by omega) (fun i hi => by omega) (by omega)
/-! the innermost scopes -/
def yi_v (G : gm_G) (w : Nat → Nat) (len x s : Nat) (v : Int32) : Prop := (∃ i j, sc_in G w len x i j ∧ s < j - i ∧ v = nI (32 * i + j) - 1 ∧ ∀ i' j', sc_in G w len x i' j' → s < j' - i' → j - i ≤ j' - i') ∨ ((∀ i' j', sc_in G w len x i' j' → j' - i' ≤ s) ∧ v = -1)
theorem ym_u118 (hG : gm_gd G) {w : Nat → Nat} {len f x : Nat} (hf : f < 4) (hwl : w len = 10) (hn : len ≤ 20) (hx : x < len) (hsp : ∀ i, i < 20 → gm_ms (a_scopes (f * 20 + i)) (fun t => sc_S G w len i (t + 1))) (post : SY → Prop) (J95 : _) {IN0 : Nat → Int32} (hJ : ∀ IN, yi_v G w len x 0 (IN (f * 20 + x)) → (∀ y, y ≠ f * 20 + x → IN y = IN0 y) → J95 (nI (x + 1)) a_pRule a_pScope a_pLen a_sym a_role a_first a_follow a_kind a_val a_len a_word a_reach a_beyond a_way a_known a_bad a_part a_scopes IN a_tRule a_tFrom a_tTo a_before) :
    ∀ s IN, s ≤ 20 → yi_v G w len x s (IN (f * 20 + x)) → (∀ y, y ≠ f * 20 + x → IN y = IN0 y) → wY_unfold_118 post J95 (nI f) (nI x) f_np f_built f_some f_empty f_wn f_nt (s + 1) (nI s) a_pRule a_pScope a_pLen a_sym a_role a_first a_follow a_kind a_val a_len a_word a_reach a_beyond a_way a_known a_bad a_part a_scopes IN a_tRule a_tFrom a_tTo a_before := by
  have hsc : ∀ i j, sc_S G w len i j → j ≤ 20 := fun i j h => by have := sc_len hG hwl h; omega
  have cI : (nI (f * 20 + x)).toNatClampNeg = f * 20 + x := nI_clamp (by omega)
  intro s
  induction s with
  | zero =>
    intro IN _ h1 h2
    rw [wY_unfold_118]
    dsimp only
    exact br_t (by decide) (nm_r (nI_1 x) (hJ IN h1 h2))
  | succ s ih =>
    intro IN hs h1 h2
    rw [wY_unfold_118]
    dsimp only
    refine br_f (nI_nle (by omega) (by omega)) (ym_ar hf (by omega) ⟨by omega, hs⟩ hsc hsp _ (fun r hr => ?_))
    rcases hr with ⟨i, r1, r2⟩ | ⟨r1, r2⟩
    · subst r2
      have l := sc_len hG hwl r1.1
      rw [ba_20x, cI, ba_32x, nI_add]
      refine br_f (nI_pos (by omega)) ⟨vp_in_nI (by omega) (by omega), nm_r (congrArg _ (by rw [ba_ns _ (by omega), ba_vs (by omega)])) (nm_r (by rw [pk_m1]) (ih _ (by omega) ?_ (fun y hy => (pk_un hy).trans (h2 y hy))))⟩
      rw [pk_us]
      refine Or.inl ⟨i, i + (s + 1), r1, by omega, by rw [show 32 * i + (i + (s + 1)) = i * 32 + i + (s + 1) from by omega], fun i' j' _ z => by omega⟩
    · subst r2
      refine br_t (by decide) (nm_r (by rw [pk_m1]) (ih IN (by omega) ?_ h2))
      have ns : ∀ i' j', sc_in G w len x i' j' → j' - i' ≠ s + 1 := by
        intro i' j' z e
        have l := z.1.1
        have ej : j' = i' + (s + 1) := by omega
        subst ej
        exact r1 i' z
      rcases h1 with ⟨i, j, q1, q2, q3, q4⟩ | ⟨q1, q2⟩
      · exact Or.inl ⟨i, j, q1, by omega, q3, fun i' j' z y => q4 i' j' z (by have := ns i' j' z; omega)⟩
      · exact Or.inr ⟨fun i' j' z => by have := q1 i' j' z; have := ns i' j' z; omega, q2⟩
theorem yi_px (hG : gm_gd G) {w : Nat → Nat} {len x : Nat} (hwl : w len = 10) (hd : dr_D G w 0 0 len) {v : Int32} (h : yi_v G w len x 0 v) : v = nI (px_c G w len x) - 1 := by
  rcases h with ⟨i, j, q1, q2, q3, q4⟩ | ⟨q1, q2⟩
  · rw [px_ct hd (a := i) (b := j) ⟨q1, fun a' b' z => ?_⟩]
    · exact q3
    · have l := q4 a' b' z (by have := z.1.1; omega)
      have l1 := z.1.1
      have l2 := q1.1.1
      rcases sc_nest hG hwl q1 z with y | y
      · omega
      · exact y
  · rw [px_cn (fun a b z => ?_), q2]
    · rfl
    · have := q1 a b z
      have := z.1.1
      omega
theorem ym_u95 (hG : gm_gd G) {w : Nat → Nat} {len f : Nat} (hf : f < 4) (hwl : w len = 10) (hn : len ≤ 20) (hd : dr_D G w 0 0 len) (hwn : f_wn = nI len) (hsp : ∀ i, i < 20 → gm_ms (a_scopes (f * 20 + i)) (fun t => sc_S G w len i (t + 1))) (post : SY → Prop) {IN0 : Nat → Int32} (hP : ∀ IN, (∀ x, x < len → IN (f * 20 + x) = nI (px_c G w len x) - 1) → xo_r 20 f IN0 IN → post (f_np, f_built, f_some, f_empty, f_wn, f_nt, a_pRule, a_pScope, a_pLen, a_sym, a_role, a_first, a_follow, a_kind, a_val, a_len, a_word, a_reach, a_beyond, a_way, a_known, a_bad, a_part, a_scopes, IN, a_tRule, a_tFrom, a_tTo, a_before)) :
    ∀ d k IN, k + d = len → (∀ x, x < k → IN (f * 20 + x) = nI (px_c G w len x) - 1) → xo_r 20 f IN0 IN → wY_unfold_95 post (nI f) f_np f_built f_some f_empty f_wn f_nt (d + 1) (nI k) a_pRule a_pScope a_pLen a_sym a_role a_first a_follow a_kind a_val a_len a_word a_reach a_beyond a_way a_known a_bad a_part a_scopes IN a_tRule a_tFrom a_tTo a_before := by
  intro d
  induction d with
  | zero =>
    intro k IN hk h1 h2
    rw [wY_unfold_95]
    dsimp only
    exact br_t (by rw [hwn]; exact nI_le (by omega) (by omega)) (hP IN (fun x hx => h1 x (by omega)) h2)
  | succ d ih =>
    intro k IN hk h1 h2
    have cI : (nI (f * 20 + k)).toNatClampNeg = f * 20 + k := nI_clamp (by omega)
    rw [wY_unfold_95]
    dsimp only
    rw [ba_20x, cI]
    refine br_f (by rw [hwn]; exact nI_ge (by omega) (by omega)) ⟨vp_in_nI (by omega) (by omega), nm_e ⟨20 + 1, ?_⟩⟩
    refine ym_u118 hG hf hwl hn (by omega) hsp post _ (IN0 := IN) (fun IN' q1 q2 => ih (k + 1) IN' (by omega) (fun x hx => ?_) (xo_rt h2 (fun y hy => q2 y (by omega)))) 20 _ (Nat.le_refl _) ?_ (fun y hy => pk_un hy)
    · rcases Nat.lt_or_ge x k with z | z
      · rw [q2 _ (by omega)]; exact h1 x z
      · have e : x = k := by omega
        subst e
        exact yi_px hG hwl hd q1
    · rw [pk_us]
      refine Or.inr ⟨fun i' j' z => ?_, ?_⟩
      · have := sc_len hG hwl z.1; omega
      · rw [show (-1 : Int32) = nI 0 - 1 from by decide, ba_vs (by omega)]
/-! the whole of unfold -/
theorem ym_u41 (hG : gm_gd G) (hy : yg_ok G f_np a_pRule a_pScope a_pLen a_sym a_role) {w : Nat → Nat} {len f : Nat} (hf : f < 4) (hn : len ≤ 20) (hw : yt_w w len f_wn a_word) (hs : yt_s G w len a_reach a_beyond) (hc : yt_c G w len 0 a_reach a_beyond) (hd : dr_D G w 0 0 len) (post : SY → Prop) {PA0 SP0 : Nat → Int32} (hP : ∀ nt WY PA SP IN TR TF TT, (∀ x, x < len → PA (f * 20 + x) = nI (px_r G w len x)) → (∀ i, i < 20 → gm_ms (SP (f * 20 + i)) (fun t => sc_S G w len i (t + 1))) → (∀ x, x < len → IN (f * 20 + x) = nI (px_c G w len x) - 1) → xo_r 20 f PA0 PA → xo_r 20 f SP0 SP → xo_r 20 f a_inner IN → post (f_np, f_built, f_some, f_empty, f_wn, nt, a_pRule, a_pScope, a_pLen, a_sym, a_role, a_first, a_follow, a_kind, a_val, a_len, a_word, a_reach, a_beyond, WY, a_known, a_bad, PA, SP, IN, TR, TF, TT, a_before)) :
    ∀ μ nt (A : Nat → Nat) WY PA SP TR TF TT Dn, ys_m (fun q => 5 ^ (A q + 1)) nt < μ → nt ≤ 400 → (∀ q, q < nt → yu_p G w len q (A q) TR TF TT) → yu_I G w len f nt TR TF TT PA SP Dn → xo_r 20 f PA0 PA → xo_r 20 f SP0 SP → wY_unfold_41 post (nI f) μ f_np f_built f_some f_empty f_wn (nI nt) a_pRule a_pScope a_pLen a_sym a_role a_first a_follow a_kind a_val a_len a_word a_reach a_beyond WY a_known a_bad PA SP a_inner TR TF TT a_before := by
  have hwl : w len = 10 := hw.2.2.2 len (Nat.le_refl _)
  intro μ
  induction μ with
  | zero => intro nt A WY PA SP TR TF TT Dn h; omega
  | succ μ ih =>
    intro nt A WY PA SP TR TF TT Dn hm h4 hq hI o1 o2
    cases nt with
    | zero =>
      obtain ⟨e1, e2⟩ := yu_end hG hwl hn hd hI
      rw [wY_unfold_41]
      dsimp only
      refine br_t (by decide) ⟨len + 1, ?_⟩
      exact ym_u95 hG hf hwl hn hd hw.1 e2 post (fun IN q1 q2 => hP _ WY PA SP IN TR TF TT e1 e2 q1 o1 o2 q2) len 0 a_inner (by omega) (fun x h => by omega) xo_rr
    | succ q0 =>
      obtain ⟨p, i, j, k, hE, hp, hN, hL, hb⟩ := hq q0 (by omega)
      obtain ⟨v, hS, hW, hij, hjl⟩ := tr_b hG hwl k p i j hN
      have c1 : (nI q0).toNatClampNeg = q0 := nI_clamp (by omega)
      have i1 : vp_in (nI q0) 400 := vp_in_nI (by omega) (by omega)
      have r6 := (gm_p0 hG.1 hp).2.1
      have hl4 := (gm_p0 hG.1 hp).2.2.1
      rw [wY_unfold_41]
      dsimp only
      refine br_f (nI_nle (by omega) (by omega)) (nm_r (nI_pred q0) ?_)
      rw [c1, hE.1, hE.2.1, hE.2.2]
      refine ⟨i1, i1, i1, ym_open hG hy hf hn hw hs hc hp hij hjl hW hL hb rfl _ (fun nt WY' PA' SP' TR' TF' TT' n1 n2 n3 n4 n5 n6 => ?_)⟩
      have hI' := yu_st hG hwl hn hp hN hE hI n1 n3 n4 n5 n6
      have hmq : ys_m (fun q => 5 ^ (A q + 1)) (q0 + 1) = ys_m (fun q => 5 ^ (A q + 1)) q0 + 5 ^ (A q0 + 1) := rfl
      have same : ∀ q, q < q0 → (fun q => 5 ^ ((if q < q0 then A q else A q0 - 1) + 1)) q = (fun q => 5 ^ (A q + 1)) q := fun q h => by dsimp only; rw [if_pos h]
      -- the levels of the new ones
      have lvs : ∀ q, q0 ≤ q → q < nt → 1 ≤ A q0 ∧ yu_p G w len q (A q0 - 1) TR' TF' TT' := by
        intro q h1 h2
        obtain ⟨m, a, b, s1, s2, s3, s4⟩ := n6.1 q h1 h2
        cases hA : A q0 with
        | zero => rw [hA] at s4; exact s4.elim
        | succ lv =>
          rw [hA] at s4 hb
          obtain ⟨p', t1, t2, t3⟩ := s4
          refine ⟨by omega, p', a, b, k + 1, ?_, t1, ⟨p, i, j, m, hN, s2, by omega, t1, dr_sg_m1 (fun _ _ _ z => ⟨lv, z⟩) t3⟩, by rw [Nat.add_sub_cancel]; exact t3, by omega⟩
          rw [t2]; exact s1
      have up : ∀ d, q0 + d ≤ nt → ys_m (fun q => 5 ^ ((if q < q0 then A q else A q0 - 1) + 1)) (q0 + d) = ys_m (fun q => 5 ^ (A q + 1)) q0 + d * 5 ^ (A q0 - 1 + 1) := by
        intro d
        induction d with
        | zero =>
          intro _
          rw [Nat.zero_mul]
          exact Nat.le_antisymm (ys_le (fun q h => Nat.le_of_eq (same q h))) (ys_le (fun q h => Nat.le_of_eq (same q h).symm))
        | succ d id =>
          intro hd
          show ys_m _ (q0 + d) + 5 ^ ((if q0 + d < q0 then A (q0 + d) else A q0 - 1) + 1) = _
          rw [id (by omega), if_neg (by omega), Nat.succ_mul]
          omega
      refine ih nt (fun q => if q < q0 then A q else A q0 - 1) WY' PA' SP' TR' TF' TT' _ ?_ (by omega) (fun q h => ?_) hI' (xo_rt o1 (yo_po (by omega) n3)) (xo_rt o2 (yo_so (by omega) n4))
      · have u := up (nt - q0) (by omega)
        rw [show q0 + (nt - q0) = nt from by omega] at u
        rw [u]
        rw [hmq] at hm
        rcases Nat.lt_or_ge q0 nt with y | y
        · have a1 := (lvs q0 (Nat.le_refl _) y).1
          rw [show A q0 - 1 + 1 = A q0 from by omega]
          have b1 : (nt - q0) * 5 ^ A q0 ≤ 4 * 5 ^ A q0 := Nat.mul_le_mul_right _ (by omega)
          have b2 : 5 ^ (A q0 + 1) = 5 ^ A q0 * 5 := Nat.pow_succ _ _
          have b3 : 0 < 5 ^ A q0 := Nat.pow_pos (by omega)
          omega
        · rw [show nt - q0 = 0 from by omega, Nat.zero_mul]
          have b3 : 0 < 5 ^ (A q0 + 1) := Nat.pow_pos (by omega)
          omega
      · rcases Nat.lt_or_ge q q0 with y | y
        · obtain ⟨p', i', j', k', t1, t2, t3, t4, t5⟩ := hq q (by omega)
          obtain ⟨s1, s2, s3⟩ := n5 q y
          rw [if_pos y]
          exact ⟨p', i', j', k', ⟨s1.trans t1.1, s2.trans t1.2.1, s3.trans t1.2.2⟩, t2, t3, t4, t5⟩
        · rw [if_neg (by omega)]
          exact (lvs q y h).2
theorem ym_u2 {f : Nat} (hf : f < 4) (post : SY → Prop) {SP0 : Nat → Int32} (hP : ∀ SP, (∀ x, x < 20 → SP (f * 20 + x) = 0) → xo_r 20 f SP0 SP → wpY_below (fun u => match u with | (f_np, f_built, f_some, f_empty, f_wn, f_nt, a_pRule, a_pScope, a_pLen, a_sym, a_role, a_first, a_follow, a_kind, a_val, a_len, a_word, a_reach, a_beyond, a_way, a_known, a_bad, a_part, a_scopes, a_inner, a_tRule, a_tFrom, a_tTo, a_before) => ∃ n41 : Nat, wY_unfold_41 post (nI f) n41 f_np f_built f_some f_empty f_wn f_nt a_pRule a_pScope a_pLen a_sym a_role a_first a_follow a_kind a_val a_len a_word a_reach a_beyond a_way a_known a_bad a_part a_scopes a_inner a_tRule a_tFrom a_tTo a_before) (f_np, f_built, f_some, f_empty, f_wn, 0, a_pRule, a_pScope, a_pLen, a_sym, a_role, a_first, a_follow, a_kind, a_val, a_len, a_word, a_reach, a_beyond, a_way, a_known, a_bad, a_part, SP, a_inner, a_tRule, a_tFrom, a_tTo, a_before) 0 0 f_wn) :
    ∀ d k SP, k + d = 20 → (∀ x, x < k → SP (f * 20 + x) = 0) → xo_r 20 f SP0 SP → wY_unfold_2 post (nI f) f_np f_built f_some f_empty f_wn f_nt (d + 1) (nI k) a_pRule a_pScope a_pLen a_sym a_role a_first a_follow a_kind a_val a_len a_word a_reach a_beyond a_way a_known a_bad a_part SP a_inner a_tRule a_tFrom a_tTo a_before := by
  intro d
  induction d with
  | zero =>
    intro k SP hk h1 h2
    rw [wY_unfold_2]
    dsimp only
    exact br_t (nI_le (a := 20) (by omega) (by omega)) (hP SP (fun x hx => h1 x (by omega)) h2)
  | succ d ih =>
    intro k SP hk h1 h2
    have cI : (nI (f * 20 + k)).toNatClampNeg = f * 20 + k := nI_clamp (by omega)
    rw [wY_unfold_2]
    dsimp only
    rw [ba_20x, cI]
    refine br_f (nI_ge (b := 20) (by omega) (by omega)) ⟨vp_in_nI (by omega) (by omega), nm_e (nm_r (nI_1 k) (ih (k + 1) _ (by omega) (fun x hx => ?_) (xo_rt h2 (xo_ru (by omega)))))⟩
    rcases Classical.em (x = k) with e | e
    · subst e; rw [pk_us]
    · rw [pk_un (by omega)]; exact h1 x (by omega)
theorem ym_unfold (hG : gm_gd G) (hy : yg_ok G f_np a_pRule a_pScope a_pLen a_sym a_role) {w : Nat → Nat} {len f : Nat} (hf : f < 4) (hn : len ≤ 20) (hw : yt_w w len f_wn a_word) (hs : yt_s G w len a_reach a_beyond) (hc : yt_c G w len 0 a_reach a_beyond) (hd : dr_D G w 0 0 len) (post : SY → Prop) (hP : ∀ nt WY PA SP IN TR TF TT, (∀ x, x < len → PA (f * 20 + x) = nI (px_r G w len x)) → (∀ i, i < 20 → gm_ms (SP (f * 20 + i)) (fun t => sc_S G w len i (t + 1))) → (∀ x, x < len → IN (f * 20 + x) = nI (px_c G w len x) - 1) → xo_r 20 f a_part PA → xo_r 20 f a_scopes SP → xo_r 20 f a_inner IN → post (f_np, f_built, f_some, f_empty, f_wn, nt, a_pRule, a_pScope, a_pLen, a_sym, a_role, a_first, a_follow, a_kind, a_val, a_len, a_word, a_reach, a_beyond, WY, a_known, a_bad, PA, SP, IN, TR, TF, TT, a_before)) : wpY_unfold post (f_np, f_built, f_some, f_empty, f_wn, f_nt, a_pRule, a_pScope, a_pLen, a_sym, a_role, a_first, a_follow, a_kind, a_val, a_len, a_word, a_reach, a_beyond, a_way, a_known, a_bad, a_part, a_scopes, a_inner, a_tRule, a_tFrom, a_tTo, a_before) (nI f) := by
  have hwl : w len = 10 := hw.2.2.2 len (Nat.le_refl _)
  have hlim := dr_lim hG.1 (len + 1) 0 0 len (by omega) hd
  obtain ⟨lv, hlv⟩ : ∃ lv, 6 * (len - 0 + 1) = lv + 1 := ⟨6 * (len - 0 + 1) - 1, by omega⟩
  rw [hlv] at hlim
  obtain ⟨p, hp, hr, hL⟩ := hlim
  have hroot : tr_N G w len 0 14 0 len := tr_r hG.1 hd
  have hN : tr_N G w len 1 p 0 len := by
    refine ⟨14, 0, len, 0, hroot, ⟨by rw [hG.1.2.2.2.1]; omega, rfl, Or.inr ⟨by rw [hG.1.2.2.2.2.1]; omega, by rw [hG.1.2.2.2.2.1]; exact hd⟩, ?_⟩, by rw [hG.1.2.2.2.2.1, hr], hp, dr_sg_m1 (fun _ _ _ z => ⟨lv, z⟩) hL⟩
    rw [hG.1.2.2.2.1]
    exact rfl
  refine ⟨20 + 1, ym_u2 hf post (fun SP q1 q2 => ?_) 20 0 a_scopes (by omega) (fun x h => by omega) xo_rr⟩
  rw [hw.1]
  refine ym_below (nt := 0) (n := 0) (i := 0) (j := len) (by omega) (by omega) (by omega) (by omega) rfl _ ⟨5 ^ (lv + 1) + 1, ?_⟩
  rw [← hw.1]
  refine ym_u41 hG hy hf hn hw hs hc hd post (PA0 := a_part) (SP0 := a_scopes) hP (5 ^ (lv + 1) + 1) 1 (fun _ => lv) a_way a_part SP _ _ _ (fun _ _ _ => False) ?_ (by omega) (fun q h => ?_) ⟨fun p' i' j' h => ?_, fun p' i' j' k' h => h.elim, fun i t hi ht h => ?_⟩ xo_rr q2
  · show 0 + 5 ^ (lv + 1) < _
    omega
  · have e : q = 0 := by omega
    subst e
    exact ⟨p, 0, len, 1, ⟨by rw [hr]; exact pk_us, pk_us, pk_us.trans hw.1⟩, hp, hN, hL, by omega⟩
  · right
    obtain ⟨P, I, J, m, a, b, c, d, e⟩ := h
    obtain ⟨e1, e2, e3, _⟩ := a
    subst e1 e2 e3
    have hm := b.1
    rw [hG.1.2.2.2.1] at hm
    have em : m = 0 := by omega
    subst em
    rw [hG.1.2.2.2.2.1] at c
    have z1 : 0 = i' := b.2.1
    have z2 := b.2.2.2
    rw [hG.1.2.2.2.1] at z2
    have z2 : j' = J := z2
    refine ⟨0, by omega, ?_, ?_, ?_⟩
    · rw [show gm_r G p' = 0 from by omega]; exact pk_us
    · rw [← z1]; exact pk_us
    · rw [z2]; exact pk_us.trans hw.1
  · rw [q1 i hi, b_0] at h
    exact absurd h (by decide)
end
