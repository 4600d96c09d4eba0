/-! rename: Y's side, on -/
section
variable {G : gm_G} {L K V : Nat → Nat}
/-- the targets are compared -/
theorem yr_c156 (hG : gm_gd G) {V' : Nat → Nat} (hT : tx_ok L K V') {B : Nat → Int32} (hB : ∀ z, z < 80 → B z = yr_b (pl_r G L K) (pl_c G L K) (pl_w V) z) (post : Int32 → SY → Prop) (x1 x2 x4 x5 : Int32) {P0 : Prop}
    (hP1 : (P0 ∧ ∀ z, z < 80 → pl_r G L K (z / 20) (z % 20) = 2 → lk_t (pl_r G L K) (pl_c G L K) (pl_w V') (z / 20) (z % 20) = lk_t (pl_r G L K) (pl_c G L K) (pl_w V) (z / 20) (z % 20)) → ∀ v, ry_Q G L K V' B (fun _ => True) v → post 1 v)
    (hP0 : (¬ (P0 ∧ ∀ z, z < 80 → pl_r G L K (z / 20) (z % 20) = 2 → lk_t (pl_r G L K) (pl_c G L K) (pl_w V') (z / 20) (z % 20) = lk_t (pl_r G L K) (pl_c G L K) (pl_w V) (z / 20) (z % 20))) → ∀ v, ry_Q G L K V' B (fun _ => True) v → wpY_revalue (fun u => post 0 u) v x1 x4 x2 x5) :
    ∀ d y x7 v, y + d = 80 → ry_Q G L K V' B (fun _ => True) v → yw_f x7 (P0 ∧ ∀ z, z < y → pl_r G L K (z / 20) (z % 20) = 2 → lk_t (pl_r G L K) (pl_c G L K) (pl_w V') (z / 20) (z % 20) = lk_t (pl_r G L K) (pl_c G L K) (pl_w V) (z / 20) (z % 20)) → match v with | (f_np, f_built, f_some, f_empty, f_wn, f_nt, a_pRule, a_pScope, a_pLen, a_sym, a_role, a_first, a_follow, a_kind, a_val, a_len, a_word, a_reach, a_beyond, a_way, a_known, a_bad, a_part, a_scopes, a_inner, a_tRule, a_tFrom, a_tTo, a_before) => wY_rename_156 post x1 x2 x4 x5 (d + 1) x7 (nI y) f_np f_built f_some f_empty f_wn f_nt a_pRule a_pScope a_pLen a_sym a_role a_first a_follow a_kind a_val a_len a_word a_reach a_beyond a_way a_known a_bad a_part a_scopes a_inner a_tRule a_tFrom a_tTo a_before := by
  intro d
  induction d with
  | zero =>
    intro y x7 v hy hv hf
    have e : y = 80 := by omega
    subst e
    rcases hf with ⟨rfl, hf⟩ | ⟨rfl, hf⟩
    · have h := hP1 hf v hv
      obtain ⟨f_np, f_built, f_some, f_empty, f_wn, f_nt, a_pRule, a_pScope, a_pLen, a_sym, a_role, a_first, a_follow, a_kind, a_val, a_len, a_word, a_reach, a_beyond, a_way, a_known, a_bad, a_part, a_scopes, a_inner, a_tRule, a_tFrom, a_tTo, a_before⟩ := v
      dsimp only
      rw [wY_rename_156]
      exact br_t (nI_le (a := 80) (by omega) (by omega)) (br_f (by decide) ⟨rfl, h⟩)
    · have h := hP0 hf v hv
      obtain ⟨f_np, f_built, f_some, f_empty, f_wn, f_nt, a_pRule, a_pScope, a_pLen, a_sym, a_role, a_first, a_follow, a_kind, a_val, a_len, a_word, a_reach, a_beyond, a_way, a_known, a_bad, a_part, a_scopes, a_inner, a_tRule, a_tFrom, a_tTo, a_before⟩ := v
      dsimp only
      rw [wY_rename_156]
      refine br_t (nI_le (a := 80) (by omega) (by omega)) (br_t rfl ?_)
      have nb : narrow .boolean (.int (0 : Int32)) = .int 0 := rfl
      simp only [nb, true_and]
      exact h
  | succ d ih =>
    intro y x7 v hy hv hf
    have hy80 : y < 80 := by omega
    have hfl : y / 20 < 4 := by omega
    have hx : y % 20 < 20 := by omega
    have cY : (nI y).toNatClampNeg = y := nI_clamp (by omega)
    have iY : vp_in (nI y) 80 := vp_in_nI (by omega) (by omega)
    have n20 : ¬ (20 : Int32) = 0 := by decide
    have t80 := lk_t80 (R := pl_r G L K) (C := pl_c G L K) (W := pl_w V) (f := y / 20) (x := y % 20) hfl
    have t80' := lk_t80 (R := pl_r G L K) (C := pl_c G L K) (W := pl_w V') (f := y / 20) (x := y % 20) hfl
    have hBy := hB y hy80
    unfold yr_b at hBy
    have ok : (pl_r G L K (y / 20) (y % 20) = 2 → lk_t (pl_r G L K) (pl_c G L K) (pl_w V') (y / 20) (y % 20) = lk_t (pl_r G L K) (pl_c G L K) (pl_w V) (y / 20) (y % 20)) → yw_f x7 (P0 ∧ ∀ z, z < y + 1 → pl_r G L K (z / 20) (z % 20) = 2 → lk_t (pl_r G L K) (pl_c G L K) (pl_w V') (z / 20) (z % 20) = lk_t (pl_r G L K) (pl_c G L K) (pl_w V) (z / 20) (z % 20)) := fun h => yw_fi ⟨fun q => ⟨q.1, fun z hz => by
        rcases Classical.em (z = y) with e | e
        · subst e; exact h
        · exact q.2 z (by omega)⟩, fun q => ⟨q.1, fun z hz => q.2 z (by omega)⟩⟩ hf
    have hbf := congrFun hv.2.1 y
    have hkk := hv.2.2 (y / 20) hfl trivial
    have ihv := ih (y + 1)
    obtain ⟨f_np, f_built, f_some, f_empty, f_wn, f_nt, a_pRule, a_pScope, a_pLen, a_sym, a_role, a_first, a_follow, a_kind, a_val, a_len, a_word, a_reach, a_beyond, a_way, a_known, a_bad, a_part, a_scopes, a_inner, a_tRule, a_tFrom, a_tTo, a_before⟩ := v
    have hbf : a_before y = B y := hbf
    dsimp only
    rw [wY_rename_156]
    refine br_f (nI_ge (b := 80) (by omega) (by omega)) ?_
    rcases Classical.em (pl_r G L K (y / 20) (y % 20) = 2) with e | e
    · rw [if_pos e] at hBy
      obtain ⟨hd, _⟩ := pl_t (G := G) (L := L) (K := K) hG (f := y / 20) (x := y % 20) (by omega)
      refine ⟨iY, br_f (by rw [cY, hbf, hBy]; exact lw_g t80) ⟨n20, n20, ?_⟩⟩
      rw [ba_md hy80, ba_dv hy80]
      refine yl_link hG hT hv hfl hx hkk hd _ (fun v2 hv2 => ?_)
      have hb2 := congrFun hv2.2.1 y
      rcases Classical.em (lk_t (pl_r G L K) (pl_c G L K) (pl_w V') (y / 20) (y % 20) = lk_t (pl_r G L K) (pl_c G L K) (pl_w V) (y / 20) (y % 20)) with q | q
      · have g := ihv x7 v2 (by omega) hv2 (ok (fun _ => q))
        obtain ⟨f_np, f_built, f_some, f_empty, f_wn, f_nt, a_pRule, a_pScope, a_pLen, a_sym, a_role, a_first, a_follow, a_kind, a_val, a_len, a_word, a_reach, a_beyond, a_way, a_known, a_bad, a_part, a_scopes, a_inner, a_tRule, a_tFrom, a_tTo, a_before⟩ := v2
        have hb2 : a_before y = B y := hb2
        dsimp only at g ⊢
        rw [cY, hb2, hBy, q]
        exact ⟨iY, br_t rfl (nm_r (nI_1 y) g)⟩
      · have g := ihv 0 v2 (by omega) hv2 (Or.inr ⟨rfl, fun z => q (z.2 y (by omega) e)⟩)
        obtain ⟨f_np, f_built, f_some, f_empty, f_wn, f_nt, a_pRule, a_pScope, a_pLen, a_sym, a_role, a_first, a_follow, a_kind, a_val, a_len, a_word, a_reach, a_beyond, a_way, a_known, a_bad, a_part, a_scopes, a_inner, a_tRule, a_tFrom, a_tTo, a_before⟩ := v2
        have hb2 : a_before y = B y := hb2
        dsimp only at g ⊢
        rw [cY, hb2, hBy]
        exact ⟨iY, br_f (fun z => q (lw_e t80' t80 lk_td lk_td z)) (nm_r (nI_1 y) g)⟩
    · rw [if_neg e] at hBy
      exact ⟨iY, br_t (by rw [cY, hbf, hBy]; decide) (nm_r (nI_1 y) (ihv x7 _ (by omega) hv (ok (fun z => absurd z e))))⟩
theorem yr_s {e y : Nat} (he : e < 80) (hd : pl_r G L K (e / 20) (e % 20) = 1) (hy : y < 80) : (yr_b (pl_r G L K) (pl_c G L K) (pl_w V) y = lk_w (pl_r G L K) e) ↔ (pl_r G L K (y / 20) (y % 20) = 2 ∧ lk_t (pl_r G L K) (pl_c G L K) (pl_w V) (y / 20) (y % 20) = e) := by
  have t80 := lk_t80 (R := pl_r G L K) (C := pl_c G L K) (W := pl_w V) (f := y / 20) (x := y % 20) (by omega)
  unfold yr_b
  split
  · next h => exact ⟨fun z => ⟨h, lw_e t80 (by omega) lk_td (fun _ => hd) z⟩, fun z => by rw [z.2]⟩
  · next h => exact ⟨fun z => absurd (by rw [← z]; decide) (lw_g (R := pl_r G L K) (y := e) (by omega)), fun z => absurd z.1 h⟩
theorem ym_rename {v : SY} (hG : gm_gd G) (hT : tx_ok L K V) (hY : ry_R true G L K V v) {v1 v2 v3 : Int32} (post : Int32 → SY → Prop) (h0 : (¬ ∃ f x n, f < 4 ∧ v1 = nI f ∧ lk_p (pl_r G L K) f 1 v2 x ∧ n < 16 ∧ v3 = nI n) → ∀ v', ry_R true G L K V v' → post 0 v')
    (h1 : ∀ f x n, f < 4 → v1 = nI f → lk_p (pl_r G L K) f 1 v2 x → n < 16 → v3 = nI n → (rn_c (pl_r G L K) (pl_c G L K) (pl_w V) (pl_w (rn_V (pl_r G L K) (pl_c G L K) (pl_w V) V (f * 20 + x) n)) f → ∀ v', ry_R true G L K (rn_V (pl_r G L K) (pl_c G L K) (pl_w V) V (f * 20 + x) n) v' → post 1 v') ∧ (¬ rn_c (pl_r G L K) (pl_c G L K) (pl_w V) (pl_w (rn_V (pl_r G L K) (pl_c G L K) (pl_w V) V (f * 20 + x) n)) f → ∀ v', ry_R true G L K (rn_V (pl_r G L K) (pl_c G L K) (pl_w V) (rn_V (pl_r G L K) (pl_c G L K) (pl_w V) V (f * 20 + x) n) (f * 20 + x) (V (f * 20 + x))) v' → post 0 v')) : wpY_rename post v v1 v2 v3 := by
  have hQ := ry_q hY
  have hY0 := hY
  obtain ⟨f_np, f_built, f_some, f_empty, f_wn, f_nt, a_pRule, a_pScope, a_pLen, a_sym, a_role, a_first, a_follow, a_kind, a_val, a_len, a_word, a_reach, a_beyond, a_way, a_known, a_bad, a_part, a_scopes, a_inner, a_tRule, a_tFrom, a_tTo, a_before⟩ := v
  unfold wpY_rename
  dsimp only
  refine br_f (by rw [hY.1]; decide) (ym_isf _ (fun hn => br_t rfl ?_) (fun f hf e => br_f (by decide) ?_))
  · unfold wY_rename_25 wY_rename_26
    exact br_t (by decide) (h0 (fun ⟨f, _, _, a, b, _⟩ => hn ⟨f, a, b⟩) _ hY0)
  · subst e
    refine yl_place (r := 1) hG hT hQ hf ⟨by omega, by omega⟩ _ (fun x v' hpl hv' hk' => ?_) (fun v' hn hv' => ?_)
    · have hx := hpl.1
      have hv1 := hv'.1
      have hd1 := hpl.2.1
      obtain ⟨f_np, f_built, f_some, f_empty, f_wn, f_nt, a_pRule, a_pScope, a_pLen, a_sym, a_role, a_first, a_follow, a_kind, a_val, a_len, a_word, a_reach, a_beyond, a_way, a_known, a_bad, a_part, a_scopes, a_inner, a_tRule, a_tFrom, a_tTo, a_before⟩ := v'
      unfold wY_rename_26
      refine br_f (nI_pos (by omega)) (br_c (fun h => h0 (fun ⟨_, _, n, _, _, _, a, b⟩ => ?_) _ hv1) (fun h => br_c (fun h' => ?_) (fun h' => h0 (fun ⟨_, _, n, _, _, _, a, b⟩ => ?_) _ hv1)))
      · subst b; exact nI_pos (by omega) h
      · obtain ⟨n, hn, e3⟩ := ba_ix (v := v3) (n := 16) (by omega) h (fun q => Int32.lt_irrefl (Int32.lt_of_lt_of_le (show (15 : Int32) < 16 from by decide) (Int32.le_trans q h')))
        obtain ⟨k1, k0⟩ := h1 f x n hf rfl hpl hn e3
        have e2 := hpl.2.2
        have cE : (nI (f * 20 + x)).toNatClampNeg = f * 20 + x := nI_clamp (by omega)
        have he : f * 20 + x < 80 := by omega
        have v16 := (hT.2 _ he).2
        have hdE : pl_r G L K ((f * 20 + x) / 20) ((f * 20 + x) % 20) = 1 := by
          rw [show (f * 20 + x) / 20 = f from by omega, show (f * 20 + x) % 20 = x from by omega]; exact hd1
        have cdE : lk_w (pl_r G L K) (f * 20 + x) = nI (f * 32 + cn (fun x => pl_r G L K f x = 1) x) := lw_n hf hx
        subst e2 e3
        rw [ba_20x, cE]
        refine ⟨vp_in_nI he (by omega), nm_r (hv1.2.2.1.2 _ he).2 (yl_dup hG hT hv' _ (fun hn => absurd ⟨f, hf, rfl⟩ hn) (fun f0 _ e0 v3 hv3 => ?_))⟩
        have ef : f0 = f := (nI_eq (by omega) (by omega)).mp e0.symm
        subst ef
        have hT' := rn_ok (R := pl_r G L K) (C := pl_c G L K) (W := pl_w V) (e := f0 * 20 + x) (n := n) hT hn
        have l1 := cn_le (lk_u (pl_r G L K) (pl_c G L K) (pl_w V) f0) 20
        have l2 := cn_le (lk_u (pl_r G L K) (pl_c G L K) (pl_w (rn_V (pl_r G L K) (pl_c G L K) (pl_w V) V (f0 * 20 + x) n)) f0) 20
        have g := yr_k69 hG hT post (nI f0) (nI (cn (fun x => pl_r G L K f0 x = 1) x)) (nI n) (nI x) (nI (V (f0 * 20 + x))) (nI (cn (lk_u (pl_r G L K) (pl_c G L K) (pl_w V) f0) 20)) (fun v4 B hv4 hB => ?_) 80 0 v3 (ry_B v3) (by omega) ⟨hv3.1, rfl, fun g hg hs => by omega⟩ (fun z h => by omega)
        · obtain ⟨f_np, f_built, f_some, f_empty, f_wn, f_nt, a_pRule, a_pScope, a_pLen, a_sym, a_role, a_first, a_follow, a_kind, a_val, a_len, a_word, a_reach, a_beyond, a_way, a_known, a_bad, a_part, a_scopes, a_inner, a_tRule, a_tFrom, a_tTo, a_before⟩ := v3
          exact ⟨80 + 1, g⟩
        · -- what the codes select
          have sel : ∀ (BF : Nat → Int32), BF = B → ∀ y, y < 80 → ((y = f0 * 20 + x ∨ BF y = nI (f0 * 32 + cn (fun x => pl_r G L K f0 x = 1) x)) ↔ rn_s (pl_r G L K) (pl_c G L K) (pl_w V) (f0 * 20 + x) y) := fun BF hBF y hy => by
            rw [hBF, hB y hy, ← cdE, yr_s he hdE hy]
            exact Iff.rfl
          have hbf := hv4.2.1
          have hkn := hv4.2.2
          obtain ⟨f_np, f_built, f_some, f_empty, f_wn, f_nt, a_pRule, a_pScope, a_pLen, a_sym, a_role, a_first, a_follow, a_kind, a_val, a_len, a_word, a_reach, a_beyond, a_way, a_known, a_bad, a_part, a_scopes, a_inner, a_tRule, a_tFrom, a_tTo, a_before⟩ := v4
          have hbf : a_before = B := hbf
          obtain ⟨z1, z2, z3, z4⟩ := hv4.1
          dsimp only
          rw [wY_rename_69]
          refine br_t (nI_le (a := 80) (by omega) (by omega)) (yr_rev hf hx hn _ (fun VA hVA => ?_))
          dsimp only
          have hr' : rx_t L K (rn_V (pl_r G L K) (pl_c G L K) (pl_w V) V (f0 * 20 + x) n) a_len a_kind VA := ⟨z3.1, fun y hy => ⟨(z3.2 y hy).1, by
            rcases Classical.em (rn_s (pl_r G L K) (pl_c G L K) (pl_w V) (f0 * 20 + x) y) with z | z
            · rw [rn_t z]; exact (hVA y hy).1 ((sel a_before hbf y hy).mpr z)
            · rw [rn_f z, (hVA y hy).2 (fun t => z ((sel a_before hbf y hy).mp t))]; exact (z3.2 y hy).2⟩⟩
          have hQ' : ry_Q G L K (rn_V (pl_r G L K) (pl_c G L K) (pl_w V) V (f0 * 20 + x) n) B (fun _ => True) (f_np, f_built, f_some, f_empty, f_wn, f_nt, a_pRule, a_pScope, a_pLen, a_sym, a_role, a_first, a_follow, a_kind, VA, a_len, a_word, a_reach, a_beyond, a_way, a_known, a_bad, a_part, a_scopes, a_inner, a_tRule, a_tFrom, a_tTo, a_before) := yr_qv hr' hv4
          -- the way back
          have back : ¬ rn_c (pl_r G L K) (pl_c G L K) (pl_w V) (pl_w (rn_V (pl_r G L K) (pl_c G L K) (pl_w V) V (f0 * 20 + x) n)) f0 → ∀ v5, ry_Q G L K (rn_V (pl_r G L K) (pl_c G L K) (pl_w V) V (f0 * 20 + x) n) B (fun _ => True) v5 → wpY_revalue (fun u => post 0 u) v5 (nI f0) (nI x) (nI (cn (fun x => pl_r G L K f0 x = 1) x)) (nI (V (f0 * 20 + x))) := by
            intro hno v5 hv5
            have hb5 := hv5.2.1
            obtain ⟨f_np, f_built, f_some, f_empty, f_wn, f_nt, a_pRule, a_pScope, a_pLen, a_sym, a_role, a_first, a_follow, a_kind, a_val, a_len, a_word, a_reach, a_beyond, a_way, a_known, a_bad, a_part, a_scopes, a_inner, a_tRule, a_tFrom, a_tTo, a_before⟩ := v5
            have hb5 : a_before = B := hb5
            obtain ⟨w1, w2, w3, w4⟩ := hv5.1
            refine yr_rev hf hx v16 _ (fun VB hVB => k0 hno _ ⟨w1, w2, ⟨w3.1, fun y hy => ⟨(w3.2 y hy).1, ?_⟩⟩, w4⟩)
            rcases Classical.em (rn_s (pl_r G L K) (pl_c G L K) (pl_w V) (f0 * 20 + x) y) with z | z
            · rw [rn_t z]; exact (hVB y hy).1 ((sel a_before hb5 y hy).mpr z)
            · rw [rn_f z, (hVB y hy).2 (fun t => z ((sel a_before hb5 y hy).mp t))]; exact (w3.2 y hy).2
          refine yl_dup hG hT' hQ' _ (fun hn => absurd ⟨f0, hf, rfl⟩ hn) (fun f1 _ e1 v5 hv5 => ?_)
          have ef : f1 = f0 := (nI_eq (by omega) (by omega)).mp e1.symm
          subst ef
          have c := fun x7 => yr_c156 (V := V) hG hT' hB post (nI f1) (nI (cn (fun x => pl_r G L K f1 x = 1) x)) (nI x) (nI (V (f1 * 20 + x))) (P0 := cn (lk_u (pl_r G L K) (pl_c G L K) (pl_w (rn_V (pl_r G L K) (pl_c G L K) (pl_w V) V (f1 * 20 + x) n)) f1) 20 = cn (lk_u (pl_r G L K) (pl_c G L K) (pl_w V) f1) 20) (fun q v6 hv6 => k1 ⟨q.2, q.1⟩ v6 hv6.1) (fun q v6 hv6 => back (fun y => q ⟨y.2, y.1⟩) v6 hv6) 80 0 x7 v5 (by omega) hv5
          obtain ⟨f_np, f_built, f_some, f_empty, f_wn, f_nt, a_pRule, a_pScope, a_pLen, a_sym, a_role, a_first, a_follow, a_kind, a_val, a_len, a_word, a_reach, a_beyond, a_way, a_known, a_bad, a_part, a_scopes, a_inner, a_tRule, a_tFrom, a_tTo, a_before⟩ := v5
          refine ek_if (nI_eq (by omega) (by omega)) (fun q => ⟨80 + 1, c 1 (Or.inl ⟨rfl, q, fun z h => by omega⟩)⟩) (fun q => ⟨80 + 1, c 0 (Or.inr ⟨rfl, fun y => q y.1⟩)⟩)
      · subst b; exact h' (nI_le (b := 15) (by omega) (by omega))
    · have hv1 := hv'.1
      obtain ⟨f_np, f_built, f_some, f_empty, f_wn, f_nt, a_pRule, a_pScope, a_pLen, a_sym, a_role, a_first, a_follow, a_kind, a_val, a_len, a_word, a_reach, a_beyond, a_way, a_known, a_bad, a_part, a_scopes, a_inner, a_tRule, a_tFrom, a_tTo, a_before⟩ := v'
      unfold wY_rename_26
      refine br_t (by decide) (h0 (fun ⟨f', x, _, a, b, c, _⟩ => ?_) _ hv1)
      have ef : f' = f := (nI_eq (by omega) (by omega)).mp b.symm
      subst ef
      exact hn x c
end
theorem i_vc_rename {k : Nat} {u : SX} {v : SY} (I : i_Rel k u v) (hk : k + 5 ≤ 2560) (v1 : Int32) (v2 : Int32) (v3 : Int32) : wpX_rename (fun r u' => wpY_rename (fun r' v' => r' = r ∧ i_Rel (k + 5) u' v') v v1 v2 v3) u v1 v2 v3 := by
  have I0 := I
  obtain ⟨b, G, L, K, V, hp, hX, hY⟩ := I
  have hX0 := hX
  cases b with
  | false =>
    obtain ⟨f_built, f_productionCount, f_depth, a_ruleOf, a_marked, a_symbolCount, a_symbols, a_roles, a_derives, a_first, a_follow, a_textLength, a_kindAt, a_valueAt, a_failsAt, a_expectedAt, a_roleAt, a_scopeAt, a_openProduction, a_openNext, a_openStart, a_targetBefore⟩ := u
    obtain ⟨x1, x2, x3, x4, x5⟩ := hX
    obtain ⟨g_np, g_built, g_some, g_empty, g_wn, g_nt, b_pRule, b_pScope, b_pLen, b_sym, b_role, b_first, b_follow, b_kind, b_val, b_len, b_word, b_reach, b_beyond, b_way, b_known, b_bad, b_part, b_scopes, b_inner, b_tRule, b_tFrom, b_tTo, b_before⟩ := v
    unfold wpX_rename
    dsimp only
    refine xl_place (r := 1) (xl_0 hp.2.1 x3 (x5 rfl)) (by omega) _ (fun _ => br_t rfl ?_) (fun f x hf e h => absurd h.2.1 (by show ¬ (0 : Nat) = 1; omega))
    unfold wpY_rename wY_rename_25 wY_rename_26
    dsimp only
    exact br_t hY.1 (br_t (by decide) ⟨rfl, I0⟩)
  | true =>
    have hG := hp.2.2.1 rfl
    obtain ⟨f_built, f_productionCount, f_depth, a_ruleOf, a_marked, a_symbolCount, a_symbols, a_roles, a_derives, a_first, a_follow, a_textLength, a_kindAt, a_valueAt, a_failsAt, a_expectedAt, a_roleAt, a_scopeAt, a_openProduction, a_openNext, a_openStart, a_targetBefore⟩ := u
    refine xm_rename hG hp.2.1 hX _ (fun hn => ym_rename hG hp.2.1 hY _ (fun _ v' hv' => ⟨rfl, true, G, L, K, V, hp, hX0, hv'⟩) (fun f x n a b c d e => absurd ⟨f, x, n, a, b, c, d, e⟩ hn)) (fun f x n a b c d e => ?_)
    have fin : ∀ (V' : Nat → Nat) (u' : SX) (v' : SY) , tx_ok L K V' → rx_R true G L K V' u' → ry_R true G L K V' v' → i_Rel (k + 5) u' v' := fun V' u' v' h1 h2 h3 => ⟨true, G, L, K, V', ⟨hp.1, h1, hp.2.2.1, fun h => nomatch h⟩, h2, h3⟩
    have v16 := (hp.2.1.2 (f * 20 + x) (by have := c.1; omega)).2
    have hT1 := rn_ok (R := pl_r G L K) (C := pl_c G L K) (W := pl_w V) (e := f * 20 + x) (n := n) hp.2.1 d
    have hT2 := rn_ok (R := pl_r G L K) (C := pl_c G L K) (W := pl_w V) (e := f * 20 + x) (n := V (f * 20 + x)) hT1 v16
    have un : ∀ f' x' n', f' < 4 → v1 = nI f' → lk_p (pl_r G L K) f' 1 v2 x' → n' < 16 → v3 = nI n' → f' = f ∧ x' = x ∧ n' = n := fun f' x' n' a' b' c' d' e' => by
      have e1 : f' = f := (nI_eq (by omega) (by omega)).mp (b'.symm.trans b)
      subst e1
      exact ⟨rfl, lk_pu c' c, (nI_eq (by omega) (by omega)).mp (e'.symm.trans e)⟩
    refine ⟨fun hc u' hu => ym_rename hG hp.2.1 hY _ (fun hn => absurd ⟨f, x, n, a, b, c, d, e⟩ hn) (fun f' x' n' a' b' c' d' e' => ?_), fun hc u' hu => ym_rename hG hp.2.1 hY _ (fun hn => absurd ⟨f, x, n, a, b, c, d, e⟩ hn) (fun f' x' n' a' b' c' d' e' => ?_)⟩
    · obtain ⟨q1, q2, q3⟩ := un f' x' n' a' b' c' d' e'
      subst q1 q2 q3
      exact ⟨fun _ v' hv' => ⟨rfl, fin _ _ _ hT1 hu hv'⟩, fun hn => absurd hc hn⟩
    · obtain ⟨q1, q2, q3⟩ := un f' x' n' a' b' c' d' e'
      subst q1 q2 q3
      exact ⟨fun hn => absurd hn hc, fun _ v' hv' => ⟨rfl, fin _ _ _ hT2 hu hv'⟩⟩
