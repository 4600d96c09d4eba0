/-! Y against the pure state: know, is -/
def yf_ok (G : gm_G) (w : Nat → Nat) (n : Nat) (ba : Int32) (pa inn sp : Nat → Int32) : Prop := px_b G w n ba ∧ (dr_D G w 0 0 n → (∀ x, x < n → pa x = nI (px_r G w n x) ∧ inn x = nI (px_c G w n x) - 1) ∧ ∀ i, i < 20 → gm_ms (sp i) (fun t => sc_S G w n i (t + 1)))
def ry_f (G : gm_G) (L K : Nat → Nat) (f : Nat) (BA PA IN SP : Nat → Int32) : Prop := yf_ok G (tx_w L K f) (L f) (BA f) (fun x => PA (f * 20 + x)) (fun x => IN (f * 20 + x)) (fun x => SP (f * 20 + x))
def ry_R (b : Bool) (G : gm_G) (L K V : Nat → Nat) (v : SY) : Prop := match v with
  | (f_np, f_built, f_some, f_empty, f_wn, f_nt, a_pRule, a_pScope, a_pLen, a_sym, a_role, a_first, a_follow, a_kind, a_val, a_len, a_word, a_reach, a_beyond, a_way, a_known, a_bad, a_part, a_scopes, a_inner, a_tRule, a_tFrom, a_tTo, a_before) => f_built = rb b ∧ yg_ok G f_np a_pRule a_pScope a_pLen a_sym a_role ∧ rx_t L K V a_len a_kind a_val ∧ ∀ f, f < 4 → a_known f = 0 ∨ (b = true ∧ a_known f = 1 ∧ ry_f G L K f a_bad a_part a_inner a_scopes)
def ry_K (G : gm_G) (L K : Nat → Nat) (f : Nat) (v : SY) : Prop := match v with
  | (f_np, f_built, f_some, f_empty, f_wn, f_nt, a_pRule, a_pScope, a_pLen, a_sym, a_role, a_first, a_follow, a_kind, a_val, a_len, a_word, a_reach, a_beyond, a_way, a_known, a_bad, a_part, a_scopes, a_inner, a_tRule, a_tFrom, a_tTo, a_before) => a_known f = 1 ∧ ry_f G L K f a_bad a_part a_inner a_scopes
def ry_B (v : SY) : Nat → Int32 := match v with
  | (f_np, f_built, f_some, f_empty, f_wn, f_nt, a_pRule, a_pScope, a_pLen, a_sym, a_role, a_first, a_follow, a_kind, a_val, a_len, a_word, a_reach, a_beyond, a_way, a_known, a_bad, a_part, a_scopes, a_inner, a_tRule, a_tFrom, a_tTo, a_before) => a_before
theorem px_e_up {G : gm_G} {w : Nat → Nat} {k : Nat} (hw : w k < 10) (h : px_e G w k (w k)) : ∃ t, px_e G w (k + 1) t := by
  obtain ⟨w', j, a, b, c, e, f⟩ := h
  have hkj : k < j := by
    rcases Nat.lt_or_ge k j with z | z
    · exact z
    · have q : k = j := by omega
      subst q; omega
  refine ⟨w' (k + 1), w', j, fun x hx => ?_, rfl, hkj, e, f⟩
  rcases Nat.lt_or_ge x k with z | z
  · exact a x z
  · have q : x = k := by omega
    subst q; exact b
theorem yb_via {G : gm_G} {w wk : Nat → Nat} {k : Nat} (hk : ∀ x, x < k → wk x = w x) : yb G wk k 0 0 ↔ ∃ t, px_e G w k t := by
  constructor
  · intro ⟨w', t, a, b, c⟩
    refine ⟨_, fun x => if x < t then w' x else 10, t, fun x hx => ?_, rfl, b, if_neg (Nat.lt_irrefl _), dr_D_w (fun x _ hx => (if_pos hx).symm) c⟩
    exact (if_pos (by omega)).trans ((a x hx).trans (hk x hx))
  · intro ⟨t, w', j, a, b, c, e, f⟩
    exact ⟨w', j, fun x hx => (a x hx).trans (hk x hx).symm, c, f⟩
theorem px_0 {G : gm_G} (hG : gm_gd G) (w : Nat → Nat) : ∃ t, px_e G w 0 t := by
  obtain ⟨k, hk⟩ := hG.2.1 0 (by omega) (Or.inl rfl)
  obtain ⟨w', t, a, b, c⟩ := dr_pr_of k 0 hk w 0
  exact (yb_via (fun _ _ => rfl)).mp ⟨w', t, a, b, c⟩
def yk_w (w : Nat → Nat) (k x : Nat) : Nat := if x < k then w x else 10
section
variable {f_np f_built f_some f_empty f_wn f_nt : Int32} {a_pRule a_pScope a_pLen a_sym a_role a_first a_follow a_kind a_val a_len a_word a_reach a_beyond a_way a_known a_bad a_part a_scopes a_inner a_tRule a_tFrom a_tTo a_before : Nat → Int32} {G : gm_G} {L K V : Nat → Nat}
theorem ym_go {w : Nat → Nat} {wn : Nat} (hG : gm_gd G) (hs : yt_s G w wn a_reach a_beyond) (hc : yt_c G w wn 0 a_reach a_beyond) (post : Int32 → Prop) (h1 : yb G w wn 0 0 → post 1) (h0 : ¬ yb G w wn 0 0 → post 0) : wpY_goesOn post (f_np, f_built, f_some, f_empty, f_wn, f_nt, a_pRule, a_pScope, a_pLen, a_sym, a_role, a_first, a_follow, a_kind, a_val, a_len, a_word, a_reach, a_beyond, a_way, a_known, a_bad, a_part, a_scopes, a_inner, a_tRule, a_tFrom, a_tTo, a_before) := by
  have hb : bt (a_beyond 0) 0 = true ↔ yb G w wn 0 0 := ⟨hs.2 0 (by omega) (Or.inl rfl) 0 (Nat.zero_le _), hc.2 0 (by omega) (Or.inl rfl) 0 (Nat.le_refl _) (Nat.zero_le _)⟩
  unfold wpY_goesOn
  dsimp only
  rcases Classical.em (yb G w wn 0 0) with z | z
  · exact br_f (by rw [ba_b1, hb.mpr z]; decide) (h1 z)
  · refine br_t ?_ (h0 z)
    rw [ba_b1]
    cases h : bt (a_beyond 0) 0
    · rfl
    · exact absurd (hb.mp h) z
theorem ym_wh {w : Nat → Nat} {wn : Nat} (hw : yt_w w wn f_wn a_word) (hs : yt_s G w wn a_reach a_beyond) (hc : yt_c G w wn 0 a_reach a_beyond) (post : Int32 → Prop) (h1 : dr_D G w 0 0 wn → post 1) (h0 : ¬ dr_D G w 0 0 wn → post 0) : wpY_whole post (f_np, f_built, f_some, f_empty, f_wn, f_nt, a_pRule, a_pScope, a_pLen, a_sym, a_role, a_first, a_follow, a_kind, a_val, a_len, a_word, a_reach, a_beyond, a_way, a_known, a_bad, a_part, a_scopes, a_inner, a_tRule, a_tFrom, a_tTo, a_before) := by
  have hn := hw.2.1
  have hb : bt (a_reach 0) wn = true ↔ dr_D G w 0 0 wn := ⟨fun z => hs.1 0 0 wn ⟨by omega, by omega, by omega, z⟩, fun z => hc.1 0 0 wn (Nat.zero_le _) (Nat.zero_le _) z⟩
  unfold wpY_whole
  dsimp only
  rcases Classical.em (dr_D G w 0 0 wn) with z | z
  · refine br_f ?_ (h1 z)
    rw [hw.1, ba_sh (by omega), hb.mpr z]; decide
  · refine br_t ?_ (h0 z)
    rw [hw.1, ba_sh (by omega)]
    cases h : bt (a_reach 0) wn
    · rfl
    · exact absurd (hb.mp h) z
theorem ym_k56 (hG : gm_gd G) (hy : yg_ok G f_np a_pRule a_pScope a_pLen a_sym a_role) {w : Nat → Nat} {len f : Nat} (hf : f < 4) (hn : len ≤ 20) (hno : ¬ dr_D G w 0 0 len) (hk : ∀ x, x < len → a_kind (f * 20 + x) = nI (w x) ∧ w x < 10) (post : SY → Prop) (hP : ∀ wn WO RE BE WY BA, px_b G w len (BA f) → (∀ g, g ≠ f → BA g = a_bad g) → post (f_np, f_built, f_some, f_empty, wn, f_nt, a_pRule, a_pScope, a_pLen, a_sym, a_role, a_first, a_follow, a_kind, a_val, a_len, WO, RE, BE, WY, a_known, BA, a_part, a_scopes, a_inner, a_tRule, a_tFrom, a_tTo, a_before)) :
    ∀ k WO RE BE WY, k ≤ len → (k < len → ¬ px_e G w k (w k)) → yt_w (yk_w w k) k (nI k) WO → yt_s G (yk_w w k) k RE BE → yt_c G (yk_w w k) k 0 RE BE → wY_know_56 post (nI f) (k + 1) (nI k) f_np f_built f_some f_empty (nI k) f_nt a_pRule a_pScope a_pLen a_sym a_role a_first a_follow a_kind a_val a_len WO RE BE WY a_known a_bad a_part a_scopes a_inner a_tRule a_tFrom a_tTo a_before := by
  have cF : (nI f).toNatClampNeg = f := nI_clamp (by omega)
  have iF : vp_in (nI f) 4 := vp_in_nI (by omega) (by omega)
  have wkw : ∀ k x, x < k → yk_w w k x = w x := fun k x hx => if_pos hx
  intro k
  induction k with
  | zero =>
    intro WO RE BE WY hkl hnx hw hs hc
    rw [wY_know_56]
    dsimp only
    rw [cF]
    refine br_t (by decide) ⟨iF, nm_r (congrArg _ (show vp_nar .byte ((nI 0).toInt8.toInt32) = nI 0 from by rw [ba_nb 0 (by omega), ba_vb (by omega)])) (hP _ WO RE BE WY _ (Or.inr ⟨hno, 0, by omega, pk_us, px_0 hG w, hnx⟩) (fun g hg => pk_un hg))⟩
  | succ k ih =>
    intro WO RE BE WY hkl hnx hw hs hc
    rw [wY_know_56]
    dsimp only
    rw [cF]
    refine br_f (nI_nle (by omega) (by omega)) (ym_go hG hs hc _ (fun h => br_f (by decide) ⟨iF, ?_⟩) (fun h => br_t rfl (nm_r (pk_m1 k) ?_)))
    · exact nm_r (congrArg _ (by rw [ba_nb _ (by omega), ba_vb (by omega)])) (hP _ WO RE BE WY _ (Or.inr ⟨hno, k + 1, hkl, pk_us, (yb_via (wkw (k + 1))).mp h, hnx⟩) (fun g hg => pk_un hg))
    · refine ym_take hG hy (w := yk_w w k) (wn := k) hf (by omega) (Or.inl ⟨rfl, rfl⟩) (fun x hx => ?_) (fun x hx => if_neg (by omega)) _ (fun WO' RE' BE' WY' q1 q2 q3 => ih WO' RE' BE' WY' (by omega) (fun _ z => ?_) q1 q2 q3)
      · rw [wkw k x hx]; exact hk x (by omega)
      · exact h ((yb_via (wkw (k + 1))).mpr (px_e_up (hk k (by omega)).2 z))
/-- know, at the level of the arrays -/
theorem ym_know0 (hG : gm_gd G) (hy : yg_ok G f_np a_pRule a_pScope a_pLen a_sym a_role) {w : Nat → Nat} {len f : Nat} (hf : f < 4) (hn : len ≤ 20) (h4 : ∀ x, len ≤ x → w x = 10) (hl : a_len f = nI len) (hk : ∀ x, x < len → a_kind (f * 20 + x) = nI (w x) ∧ w x < 10) (h0 : a_known f = 0) (post : SY → Prop) (hP : ∀ wn nt WO RE BE WY BA PA SP IN TR TF TT, yf_ok G w len (BA f) (fun x => PA (f * 20 + x)) (fun x => IN (f * 20 + x)) (fun x => SP (f * 20 + x)) → (∀ g, g ≠ f → BA g = a_bad g) → xo_r 20 f a_part PA → xo_r 20 f a_scopes SP → xo_r 20 f a_inner IN → post (f_np, f_built, f_some, f_empty, wn, nt, a_pRule, a_pScope, a_pLen, a_sym, a_role, a_first, a_follow, a_kind, a_val, a_len, WO, RE, BE, WY, upd a_known f 1, BA, PA, SP, IN, TR, TF, TT, a_before)) : wpY_know post (f_np, f_built, f_some, f_empty, f_wn, f_nt, a_pRule, a_pScope, a_pLen, a_sym, a_role, a_first, a_follow, a_kind, a_val, a_len, a_word, a_reach, a_beyond, a_way, a_known, a_bad, a_part, a_scopes, a_inner, a_tRule, a_tFrom, a_tTo, a_before) (nI f) := by
  have cF : (nI f).toNatClampNeg = f := nI_clamp (by omega)
  have iF : vp_in (nI f) 4 := vp_in_nI (by omega) (by omega)
  have bm1 : vp_nar .byte (-1) = -1 := by rw [vp_nar_byte]; decide
  unfold wpY_know
  dsimp only
  rw [cF, hl]
  refine ⟨iF, br_t h0 ⟨iF, nm_r (congrArg _ ba_bool1) ⟨iF, ?_⟩⟩⟩
  refine ym_take hG hy (w := w) (wn := len) hf hn (Or.inl ⟨rfl, rfl⟩) hk h4 _ (fun WO RE BE WY q1 q2 q3 => ⟨iF, nm_r (congrArg _ bm1) ?_⟩)
  refine ym_wh q1 q2 q3 _ (fun hd => br_f (by decide) ?_) (fun hd => br_t rfl ⟨iF, nm_r hl ⟨len + 1, ?_⟩⟩)
  · refine ym_unfold hG hy hf hn q1 q2 q3 hd _ (fun nt WY' PA SP IN TR TF TT r1 r2 r3 r4 r5 r6 => hP _ nt WO RE BE WY' _ PA SP IN TR TF TT ⟨Or.inl ⟨hd, pk_us⟩, fun _ => ⟨fun x hx => ⟨r1 x hx, r3 x hx⟩, r2⟩⟩ (fun g hg => pk_un hg) r4 r5 r6)
  · have e : yk_w w len = w := by
      funext x
      unfold yk_w
      split
      · rfl
      · next h => exact (h4 x (by omega)).symm
    refine ym_k56 hG hy hf hn hd hk post (fun wn WO RE BE WY BA r1 r2 => hP wn _ WO RE BE WY BA _ _ _ _ _ _ ⟨r1, fun z => absurd z hd⟩ (fun g hg => (r2 g hg).trans (pk_un hg)) xo_rr xo_rr xo_rr) len WO RE BE WY (Nat.le_refl _) (fun z => absurd z (Nat.lt_irrefl _)) (by rw [e]; exact q1) (by rw [e]; exact q2) (by rw [e]; exact q3)
end
section
variable {G : gm_G} {L K V : Nat → Nat}
theorem ym_knowB {v : SY} (hG : gm_gd G) (hT : tx_ok L K V) (hY : ry_R true G L K V v) {f : Nat} (hf : f < 4) (post : SY → Prop) (hP : ∀ v', ry_R true G L K V v' → ry_K G L K f v' → ry_B v' = ry_B v ∧ (∀ g, g < 4 → ry_K G L K g v → ry_K G L K g v') → post v') : wpY_know post v (nI f) := by
  obtain ⟨f_np, f_built, f_some, f_empty, f_wn, f_nt, a_pRule, a_pScope, a_pLen, a_sym, a_role, a_first, a_follow, a_kind, a_val, a_len, a_word, a_reach, a_beyond, a_way, a_known, a_bad, a_part, a_scopes, a_inner, a_tRule, a_tFrom, a_tTo, a_before⟩ := v
  have hY0 := hY
  obtain ⟨h1, h2, h3, h4⟩ := hY
  have l := hT.1 f hf
  rcases h4 f hf with z | ⟨_, z1, z2⟩
  · refine ym_know0 hG h2 (w := tx_w L K f) hf l (fun x hx => if_neg (by omega)) (h3.1 f hf) (tx_wk hT h3 hf) z post (fun wn nt WO RE BE WY BA PA SP IN TR TF TT q1 q2 q3 q4 q5 => ?_)
    have kp : ∀ g, g < 4 → g ≠ f → ry_f G L K g a_bad a_part a_inner a_scopes → ry_f G L K g BA PA IN SP := fun g hg e ⟨y2, y3⟩ => by
      have lg := hT.1 g hg
      refine ⟨by rw [q2 g e]; exact y2, fun hd => ⟨fun x hx => ?_, fun i hi => ?_⟩⟩
      · obtain ⟨t1, t2⟩ := (y3 hd).1 x hx
        exact ⟨(q3 _ (by omega)).trans t1, (q5 _ (by omega)).trans t2⟩
      · show gm_ms (SP (g * 20 + i)) _
        rw [q4 _ (by omega)]
        exact (y3 hd).2 i hi
    refine hP _ ⟨h1, h2, h3, fun g hg => ?_⟩ ⟨pk_us, q1⟩ ⟨rfl, fun g hg hk => ?_⟩
    · rcases Classical.em (g = f) with e | e
      · subst e
        exact Or.inr ⟨rfl, pk_us, q1⟩
      · show upd a_known f 1 g = 0 ∨ _ ∧ upd a_known f 1 g = 1 ∧ _
        rw [pk_un e]
        rcases h4 g hg with y | ⟨_, y1, y2⟩
        · exact Or.inl y
        · exact Or.inr ⟨rfl, y1, kp g hg e y2⟩
    · rcases Classical.em (g = f) with e | e
      · subst e
        exact ⟨pk_us, q1⟩
      · exact ⟨(pk_un e).trans hk.1, kp g hg e hk.2⟩
  · have cF : (nI f).toNatClampNeg = f := nI_clamp (by omega)
    unfold wpY_know
    dsimp only
    rw [cF]
    exact ⟨vp_in_nI (by omega) (by omega), br_f (by rw [z1]; decide) (hP _ hY0 ⟨z1, z2⟩ ⟨rfl, fun _ _ h => h⟩)⟩
theorem ym_know {v : SY} (hG : gm_gd G) (hT : tx_ok L K V) (hY : ry_R true G L K V v) {f : Nat} (hf : f < 4) (post : SY → Prop) (hP : ∀ v', ry_R true G L K V v' → ry_K G L K f v' → post v') : wpY_know post v (nI f) := ym_knowB hG hT hY hf post (fun v' a b _ => hP v' a b)
/-- the role at a position of a file -/
noncomputable def pl_r (G : gm_G) (L K : Nat → Nat) (f x : Nat) : Nat := px_r G (tx_w L K f) (L f) x
noncomputable def pl_c (G : gm_G) (L K : Nat → Nat) (f x : Nat) : Nat := px_c G (tx_w L K f) (L f) x
theorem px_r4 (hG : gm_gd G) {w : Nat → Nat} {n x : Nat} (hw : w n = 10) : px_r G w n x < 4 := by
  rcases Classical.em (dr_D G w 0 0 n ∧ ∃ k p m, tr_f G w n k x p m) with ⟨hd, k, p, m, h⟩ | h
  · rw [px_rt hG hw hd h]
    obtain ⟨i, j, a, b, c⟩ := h
    obtain ⟨v, _⟩ := tr_b hG hw k p i j a
    rcases v with v | v
    · exact ((hG.1.2.1 p v).2.2.2 m b.1).2 c
    · subst v
      have := b.1
      rw [hG.1.2.2.2.1] at this
      have e : m = 0 := by omega
      subst e
      rw [hG.1.2.2.2.2.1] at c
      omega
  · unfold px_r
    rw [cl_f (fun r ⟨h1, k, p, m, h2, _⟩ => h ⟨h1, k, p, m, h2⟩)]
    omega
theorem ym_is {v : SY} (hG : gm_gd G) (hT : tx_ok L K V) (hY : ry_R true G L K V v) {f x r : Nat} (hf : f < 4) (hx : x < 20) (hr : 1 ≤ r ∧ r < 4) (post : Int32 → SY → Prop) (hP1 : pl_r G L K f x = r → ∀ v', ry_R true G L K V v' → ry_K G L K f v' → ry_B v' = ry_B v ∧ (∀ g, g < 4 → ry_K G L K g v → ry_K G L K g v') → post 1 v') (hP0 : ¬ pl_r G L K f x = r → ∀ v', ry_R true G L K V v' → ry_K G L K f v' → ry_B v' = ry_B v ∧ (∀ g, g < 4 → ry_K G L K g v → ry_K G L K g v') → post 0 v') : wpY_is post v (nI f) (nI x) (nI r) := by
  obtain ⟨f_np, f_built, f_some, f_empty, f_wn, f_nt, a_pRule, a_pScope, a_pLen, a_sym, a_role, a_first, a_follow, a_kind, a_val, a_len, a_word, a_reach, a_beyond, a_way, a_known, a_bad, a_part, a_scopes, a_inner, a_tRule, a_tFrom, a_tTo, a_before⟩ := v
  unfold wpY_is
  dsimp only
  refine ym_knowB hG hT hY hf _ (fun v' hv hk hB => ?_)
  obtain ⟨f_np, f_built, f_some, f_empty, f_wn, f_nt, a_pRule, a_pScope, a_pLen, a_sym, a_role, a_first, a_follow, a_kind, a_val, a_len, a_word, a_reach, a_beyond, a_way, a_known, a_bad, a_part, a_scopes, a_inner, a_tRule, a_tFrom, a_tTo, a_before⟩ := v'
  have hv0 := hv
  have hk0 := hk
  obtain ⟨h1, h2, h3, h4⟩ := hv
  obtain ⟨k1, k2, k3⟩ := hk
  have l := hT.1 f hf
  have cF : (nI f).toNatClampNeg = f := nI_clamp (by omega)
  have iF : vp_in (nI f) 4 := vp_in_nI (by omega) (by omega)
  have cI : (nI (f * 20 + x)).toNatClampNeg = f * 20 + x := nI_clamp (by omega)
  dsimp only
  rw [cF, h3.1 f hf, ba_20x, cI]
  refine ⟨iF, ?_⟩
  have hwn : tx_w L K f (L f) = 10 := tx_wn
  rcases k2 with ⟨d1, d2⟩ | ⟨d1, k, d2, d3, _⟩
  · refine br_f (by rw [d2]; decide) ⟨iF, pk_le (L f) x (fun z => hP0 ?_ _ hv0 hk0 hB) (fun z => ⟨vp_in_nI (by omega) (by omega), ?_⟩)⟩
    · unfold pl_r
      rw [px_rn hG hwn z]
      omega
    · have e := ((k3 d1).1 x z).1
      have e : a_part (f * 20 + x) = nI (px_r G (tx_w L K f) (L f) x) := e
      rw [e]
      have b4 := px_r4 (x := x) hG hwn
      exact pk_eq (px_r G (tx_w L K f) (L f) x) r (fun z => hP1 z _ hv0 hk0 hB) (fun z => hP0 z _ hv0 hk0 hB)
  · refine br_t (by rw [d3]; exact nI_pos' (by omega)) (hP0 ?_ _ hv0 hk0 hB)
    unfold pl_r
    rw [px_r0 d1]
    omega
end
