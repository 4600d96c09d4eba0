/-! Y's recognition: settle, take -/
def yb (G : gm_G) (w : Nat → Nat) (wn n j : Nat) : Prop := ∃ w' t, (∀ x, x < wn → w' x = w x) ∧ wn ≤ t ∧ dr_D G w' n j t
def yt_s (G : gm_G) (w : Nat → Nat) (wn : Nat) (RE BE : Nat → Int32) : Prop := (∀ n j t, yt_R RE wn n j t → dr_D G w n j t) ∧ ∀ n, n < 6 → gm_us G n → ∀ j, j ≤ wn → bt (BE n) j = true → yb G w wn n j
def yt_c (G : gm_G) (w : Nat → Nat) (wn i : Nat) (RE BE : Nat → Int32) : Prop := (∀ n j t, i ≤ j → j ≤ wn → dr_D G w n j t → bt (RE (n * 22 + j)) t = true) ∧ ∀ n, n < 6 → gm_us G n → ∀ j, i ≤ j → j ≤ wn → yb G w wn n j → bt (BE n) j = true
theorem dr_D6 {G : gm_G} (hG : gm_ok G) {w : Nat → Nat} {n i j : Nat} (h : dr_D G w n i j) : n < 6 := by
  obtain ⟨p, a, b, _⟩ := dr_D_to h
  rw [← b]; exact (hG.2.1 p a).1
theorem dr_Dub {G : gm_G} {w : Nat → Nat} {wn : Nat} (h4 : ∀ x, wn ≤ x → w x = 10) {n i j : Nat} (hi : i ≤ wn) (h : dr_D G w n i j) : j ≤ wn := by
  rcases Nat.lt_or_ge wn j with z | z
  · have := dr_lt10 h hi z
    rw [h4 wn (Nat.le_refl _)] at this
    omega
  · exact z
theorem yt_sb {G : gm_G} {w : Nat → Nat} {wn : Nat} {RE BE : Nat → Int32} (h4 : ∀ x, wn ≤ x → w x = 10) (hs : yt_s G w wn RE BE) : ∀ n j t, yt_R RE wn n j t → t ≤ wn := fun n j t h => dr_Dub h4 h.2.1 (hs.1 n j t h)
theorem gm_usr {G : gm_G} {p m : Nat} (hp : p < gm_n G) (hm : m < gm_l G p) (hs : 10 ≤ gm_s G p m) : gm_us G (gm_s G p m - 10) := Or.inr ⟨p, hp, Or.inr ⟨m, hm, by omega⟩⟩
theorem gm_usp {G : gm_G} {p : Nat} (hp : p < gm_n G) : gm_us G (gm_r G p) := Or.inr ⟨p, hp, Or.inl rfl⟩
/-- sound: what goes past goes on -/
theorem yt_ps {G : gm_G} (hG : gm_gd G) {w : Nat → Nat} {wn : Nat} {RE BE : Nat → Int32} (hs : yt_s G w wn RE BE) {p i : Nat} (hp : p < gm_n G) (h : yw_p G w wn RE BE p i) : yb G w wn (gm_r G p) i := by
  have up : ∀ m k, dr_sg G (yt_R RE wn) w p m 0 i k → dr_S G w p m 0 i k := fun m k z => dr_sg_m1 hs.1 z
  rcases h with ⟨m, k, h1, h2, h3, h4⟩ | h
  · have h3s := up m k h3
    rcases h4 with h4 | ⟨h4, h5⟩
    · subst h4
      obtain ⟨w', j, a, b, c⟩ := dr_prw hG (Or.inl hp) m w k
      refine ⟨w', j, a, b, dr_D_of hp ?_⟩
      rw [show gm_l G p = m + (gm_l G p - m) from by omega]
      exact dr_app m 0 i (dr_S_w (fun x _ hx => (a x hx).symm) h3s) (by rw [Nat.zero_add]; exact c)
    · have h16 := (gm_p0 hG.1 hp).2.2.2 m h1
      obtain ⟨w1, t, a1, b1, c1⟩ := hs.2 _ (by omega) (gm_usr hp h1 h4) k h2 h5
      obtain ⟨w2, j, a2, b2, c2⟩ := dr_prw hG (Or.inl hp) (m + 1) w1 t
      refine ⟨w2, j, fun x hx => (a2 x (by omega)).trans (a1 x hx), by omega, dr_D_of hp ?_⟩
      have l := dr_D_le _ _ _ c1
      have e1 : dr_S G w2 p m 0 i k := dr_S_w (fun x _ hx => ((a2 x (by omega)).trans (a1 x (by omega))).symm) h3s
      have e2 : dr_S G w2 p (gm_l G p - (m + 1) + 1) m k j := ⟨t, Or.inr ⟨h4, dr_D_w (fun x _ hx => (a2 x hx).symm) c1⟩, c2⟩
      rw [show gm_l G p = m + (gm_l G p - (m + 1) + 1) from by omega]
      exact dr_app m 0 i e1 (by rw [Nat.zero_add]; exact e2)
  · exact ⟨w, wn, fun _ _ => rfl, Nat.le_refl _, dr_D_of hp (up _ _ h)⟩
/-- complete: what goes on goes past -/
theorem yt_sq {G : gm_G} {w w' : Nat → Nat} {wn lv : Nat} {RE BE : Nat → Int32} (ha : ∀ x, x < wn → w' x = w x) {p i t' : Nat} (hp : p < gm_n G) (hR : ∀ n a b, i ≤ a → a ≤ b → b ≤ wn → dr_L G w lv n a b → yt_R RE wn n a b) (hB : ∀ m a b, m < gm_l G p → 10 ≤ gm_s G p m → i ≤ a → a ≤ wn → wn ≤ b → dr_L G w' lv (gm_s G p m - 10) a b → bt (BE (gm_s G p m - 10)) a = true) (ht : wn ≤ t') :
    ∀ c m a, m + c = gm_l G p → dr_sg G (yt_R RE wn) w p m 0 i a → i ≤ a → a ≤ wn → dr_sg G (dr_L G w' lv) w' p c m a t' → yw_p G w wn RE BE p i := by
  intro c
  induction c with
  | zero =>
    intro m a hm h1 h2 h3 h4
    have h4 : a = t' := h4
    have e : a = wn := by omega
    subst e
    exact Or.inr (by rw [show gm_l G p = m from by omega]; exact h1)
  | succ c ih =>
    intro m a hm h1 h2 h3 h4
    rcases Nat.lt_or_ge a wn with z | z
    · obtain ⟨k, x, y⟩ := h4
      have l := dr_sy_le (dr_L_le lv) x
      rcases Nat.lt_or_ge wn k with q | q
      · rcases x with ⟨_, _, x⟩ | ⟨x1, x2⟩
        · omega
        · exact Or.inl ⟨m, a, by omega, h3, h1, Or.inr ⟨x1, hB m a k (by omega) x1 h2 h3 (by omega) x2⟩⟩
      · have sy : dr_sy (yt_R RE wn) w (gm_s G p m) a k := by
          rcases x with ⟨x1, x2, x3⟩ | ⟨x1, x2⟩
          · exact Or.inl ⟨x1, by rw [← ha a z]; exact x2, x3⟩
          · exact Or.inr ⟨x1, hR _ _ _ h2 l q (dr_L_w lv _ _ _ (fun x _ hx => ha x (by omega)) x2)⟩
        exact ih (m + 1) k (by omega) (dr_sn h1 sy) (by omega) q y
    · have e : a = wn := by omega
      subst e
      exact Or.inl ⟨m, a, by omega, Nat.le_refl _, h1, Or.inl rfl⟩
theorem yt_cl {G : gm_G} (hG : gm_ok G) {w : Nat → Nat} {wn i : Nat} {RE BE : Nat → Int32} (h4 : ∀ x, wn ≤ x → w x = 10) (hn : wn ≤ 21) (hi : i ≤ wn) (hc : yt_c G w wn (i + 1) RE BE) (hcl : ∀ p, p < gm_n G → (∀ t, t < 32 → dr_sg G (yt_R RE wn) w p (gm_l G p) 0 i t → bt (RE (gm_r G p * 22 + i)) t = true) ∧ (yw_p G w wn RE BE p i → bt (BE (gm_r G p)) i = true)) : yt_c G w wn i RE BE := by
  have r0 : ∀ lv n t, dr_L G w lv n i t → bt (RE (n * 22 + i)) t = true := by
    intro lv
    induction lv with
    | zero => intro n t h; exact h.elim
    | succ lv ih =>
      intro n t ⟨p, a, b, h⟩
      have l : t ≤ wn := dr_Dub h4 hi ⟨lv + 1, p, a, b, h⟩
      rw [← b]
      refine (hcl p a).1 t (by omega) (dr_sg_mo (lo := i) (hi := t) (dr_L_le lv) (fun n' a' b' l1 l2 z => ?_) (fun _ _ _ => rfl) _ _ i t (Nat.le_refl _) (Nat.le_refl _) h)
      have l3 := dr_L_le lv _ _ _ z
      refine ⟨dr_D6 hG ⟨lv, z⟩, by omega, by omega, ?_⟩
      rcases Nat.lt_or_ge i a' with y | y
      · exact hc.1 n' a' b' y (by omega) ⟨lv, z⟩
      · have e : a' = i := by omega
        subst e
        exact ih n' b' z
  have rr : ∀ n j t, i ≤ j → j ≤ wn → dr_D G w n j t → bt (RE (n * 22 + j)) t = true := by
    intro n j t l1 l2 h
    rcases Nat.lt_or_ge i j with y | y
    · exact hc.1 n j t y l2 h
    · have e : j = i := by omega
      subst e
      obtain ⟨lv, h⟩ := h
      exact r0 lv n t h
  refine ⟨rr, fun n hn6 hu j l1 l2 h => ?_⟩
  rcases Nat.lt_or_ge i j with y | y
  · exact hc.2 n hn6 hu j y l2 h
  · have e : j = i := by omega
    subst e
    obtain ⟨w', t', a1, a2, lv, h⟩ := h
    have key : ∀ lv n t', wn ≤ t' → dr_L G w' lv n j t' → bt (BE n) j = true := by
      intro lv
      induction lv with
      | zero => intro n t' _ h; exact h.elim
      | succ lv ih =>
        intro n t' ht ⟨p, a, b, h⟩
        rw [← b]
        refine (hcl p a).2 (yt_sq (lv := lv) a1 a (fun n' a' b' l1 l2 l3 z => ⟨dr_D6 hG ⟨lv, z⟩, by omega, by omega, rr n' a' b' l1 (by omega) ⟨lv, z⟩⟩) (fun m a' b' hm hs l1 l2 l3 z => ?_) ht (gm_l G p) 0 j (by omega) rfl (Nat.le_refl _) hi h)
        have h16 := (gm_p0 hG a).2.2.2 m hm
        rcases Nat.lt_or_ge j a' with q | q
        · exact hc.2 _ (by omega) (gm_usr a hm hs) a' q l2 ⟨w', b', a1, l3, lv, z⟩
        · have e : a' = j := by omega
          subst e
          exact ih _ b' l3 z
    exact key lv n t' a2 h
/-! the measure of settle -/
def ys_n (x : Int32) : Nat := 4294967296 - x.toBitVec.toNat
theorem ys_n_le (x y : Int32) : ys_n (x ||| y) ≤ ys_n x := by
  unfold ys_n
  have h : x.toBitVec.toNat ≤ (x ||| y).toBitVec.toNat := by
    rw [Int32.toBitVec_or, BitVec.toNat_or]
    exact Nat.left_le_or
  omega
theorem ys_n_lt {x y : Int32} (h : ¬ (x ||| y) = x) : ys_n (x ||| y) < ys_n x := by
  have h1 : x.toBitVec.toNat ≤ (x ||| y).toBitVec.toNat := by
    rw [Int32.toBitVec_or, BitVec.toNat_or]
    exact Nat.left_le_or
  have h2 : x.toBitVec.toNat ≠ (x ||| y).toBitVec.toNat := fun e => h (Int32.toBitVec_inj.mp (BitVec.eq_of_toNat_eq e.symm))
  have h3 := (x ||| y).toBitVec.isLt
  unfold ys_n
  omega
def ys_m (f : Nat → Nat) : Nat → Nat
  | 0 => 0
  | k + 1 => ys_m f k + f k
theorem ys_le {f f' : Nat → Nat} : ∀ {N : Nat}, (∀ k, k < N → f' k ≤ f k) → ys_m f' N ≤ ys_m f N
  | 0, _ => Nat.le_refl _
  | N + 1, h => by
    have a := ys_le (f := f) (f' := f') (N := N) (fun k hk => h k (by omega))
    have b := h N (by omega)
    unfold ys_m; omega
theorem ys_lt {f f' : Nat → Nat} {n : Nat} : ∀ {N : Nat}, (∀ k, k < N → f' k ≤ f k) → n < N → f' n < f n → ys_m f' N < ys_m f N
  | 0, _, h, _ => by omega
  | N + 1, h, hn, hl => by
    have b := h N (by omega)
    unfold ys_m
    rcases Nat.lt_or_ge n N with z | z
    · have a := ys_lt (f := f) (f' := f') (N := N) (fun k hk => h k (by omega)) z hl
      omega
    · have e : n = N := by omega
      subst e
      have a := ys_le (f := f) (f' := f') (N := n) (fun k hk => h k (by omega))
      omega
def ys_u (i : Nat) (RE BE : Nat → Int32) : Nat := ys_m (fun n => ys_n (RE (n * 22 + i))) 6 + ys_m (fun n => ys_n (BE n)) 6
theorem ys_up {i n : Nat} {RE BE : Nat → Int32} {y z : Int32} (hi : i < 22) (hn : n < 6) : ys_u i (upd RE (n * 22 + i) (RE (n * 22 + i) ||| y)) (upd BE n (BE n ||| z)) ≤ ys_u i RE BE ∧ (¬ ((RE (n * 22 + i) ||| y) = RE (n * 22 + i) ∧ (BE n ||| z) = BE n) → ys_u i (upd RE (n * 22 + i) (RE (n * 22 + i) ||| y)) (upd BE n (BE n ||| z)) < ys_u i RE BE) := by
  have a1 : ∀ k, k < 6 → ys_n (upd RE (n * 22 + i) (RE (n * 22 + i) ||| y) (k * 22 + i)) ≤ ys_n (RE (k * 22 + i)) := by
    intro k hk
    rcases Classical.em (k = n) with e | e
    · subst e; rw [pk_us]; exact ys_n_le _ _
    · rw [pk_un (by omega)]; exact Nat.le_refl _
  have a2 : ∀ k, k < 6 → ys_n (upd BE n (BE n ||| z) k) ≤ ys_n (BE k) := by
    intro k hk
    rcases Classical.em (k = n) with e | e
    · subst e; rw [pk_us]; exact ys_n_le _ _
    · rw [pk_un e]; exact Nat.le_refl _
  have b1 := ys_le (f := fun k => ys_n (RE (k * 22 + i))) (f' := fun k => ys_n (upd RE (n * 22 + i) (RE (n * 22 + i) ||| y) (k * 22 + i))) a1
  have b2 := ys_le (f := fun k => ys_n (BE k)) (f' := fun k => ys_n (upd BE n (BE n ||| z) k)) a2
  refine ⟨by unfold ys_u; omega, fun h => ?_⟩
  rcases Classical.em ((RE (n * 22 + i) ||| y) = RE (n * 22 + i)) with q | q
  · have q2 : ¬ (BE n ||| z) = BE n := fun e => h ⟨q, e⟩
    have b3 := ys_lt (f := fun k => ys_n (BE k)) (f' := fun k => ys_n (upd BE n (BE n ||| z) k)) (n := n) a2 hn (by rw [pk_us]; exact ys_n_lt q2)
    unfold ys_u; omega
  · have b3 := ys_lt (f := fun k => ys_n (RE (k * 22 + i))) (f' := fun k => ys_n (upd RE (n * 22 + i) (RE (n * 22 + i) ||| y) (k * 22 + i))) (n := n) a1 hn (by rw [pk_us]; exact ys_n_lt q)
    unfold ys_u; omega
theorem ys_same {A : Nat → Int32} {k : Nat} {x : Int32} (h : x = A k) : upd A k x = A := by
  funext j
  rw [ba_up]; split
  · next e => rw [e]; exact h
  · rfl
theorem yt_cm {G : gm_G} {w : Nat → Nat} {wn i : Nat} {RE BE RE' BE' : Nat → Int32} (h1 : ∀ k t, bt (RE k) t = true → bt (RE' k) t = true) (h2 : ∀ k t, bt (BE k) t = true → bt (BE' k) t = true) (h : yt_c G w wn i RE BE) : yt_c G w wn i RE' BE' :=
  ⟨fun n j t a b c => h1 _ _ (h.1 n j t a b c), fun n hn hu j a b c => h2 _ _ (h.2 n hn hu j a b c)⟩
def yt_P (G : gm_G) (w : Nat → Nat) (wn i p : Nat) (RE BE : Nat → Int32) : Prop := (∀ t, t < 32 → dr_sg G (yt_R RE wn) w p (gm_l G p) 0 i t → bt (RE (gm_r G p * 22 + i)) t = true) ∧ (yw_p G w wn RE BE p i → bt (BE (gm_r G p)) i = true)
section
variable {f_np f_built f_some f_empty f_wn f_nt : Int32} {a_pRule a_pScope a_pLen a_sym a_role a_first a_follow a_kind a_val a_len a_word a_reach a_beyond a_way a_known a_bad a_part a_scopes a_inner a_tRule a_tFrom a_tTo a_before : Nat → Int32} {G : gm_G}
theorem ym_s10 (hG : gm_gd G) (hy : yg_ok G f_np a_pRule a_pScope a_pLen a_sym a_role) {w : Nat → Nat} {wn i : Nat} (hw : yt_w w wn f_wn a_word) (hi : i ≤ wn) {RE0 BE0 : Nat → Int32} (post : SY → Prop) (J2 : _) (hJ0 : ∀ WY, yt_s G w wn RE0 BE0 → yt_c G w wn i RE0 BE0 → J2 0 f_np f_built f_some f_empty f_wn f_nt a_pRule a_pScope a_pLen a_sym a_role a_first a_follow a_kind a_val a_len a_word RE0 BE0 WY a_known a_bad a_part a_scopes a_inner a_tRule a_tFrom a_tTo a_before) (hJ1 : ∀ RE BE WY, yt_s G w wn RE BE → yt_c G w wn (i + 1) RE BE → ys_u i RE BE < ys_u i RE0 BE0 → J2 1 f_np f_built f_some f_empty f_wn f_nt a_pRule a_pScope a_pLen a_sym a_role a_first a_follow a_kind a_val a_len a_word RE BE WY a_known a_bad a_part a_scopes a_inner a_tRule a_tFrom a_tTo a_before) :
    ∀ d p x2 RE BE WY, p + d = gm_n G → yt_s G w wn RE BE → yt_c G w wn (i + 1) RE BE → (x2 = 0 ∧ RE = RE0 ∧ BE = BE0 ∧ (∀ p', p' < p → yt_P G w wn i p' RE0 BE0) ∨ x2 = 1 ∧ ys_u i RE BE < ys_u i RE0 BE0) → wY_settle_10 post J2 (nI i) (d + 1) x2 (nI p) f_np f_built f_some f_empty f_wn f_nt a_pRule a_pScope a_pLen a_sym a_role a_first a_follow a_kind a_val a_len a_word RE BE WY a_known a_bad a_part a_scopes a_inner a_tRule a_tFrom a_tTo a_before := by
  have h14 := hG.1.1
  have e0 := hy.1
  have hw0 := hw
  obtain ⟨h1, h2, h3, h4⟩ := hw
  intro d
  induction d with
  | zero =>
    intro p x2 RE BE WY hp hs hc hx
    rw [wY_settle_10]
    dsimp only
    refine br_t (by rw [e0]; exact nI_le (by omega) (by omega)) ?_
    rcases hx with ⟨rfl, rfl, rfl, hI⟩ | ⟨rfl, hl⟩
    · exact hJ0 WY hs (yt_cl hG.1 h4 h2 hi hc (fun p' hp' => hI p' (by omega)))
    · exact hJ1 RE BE WY hs hc hl
  | succ d ih =>
    intro p x2 RE BE WY hp hs hc hx
    have hpn : p < gm_n G := by omega
    obtain ⟨_, h6, hl, hs16⟩ := gm_p0 hG.1 hpn
    have c1 : (nI p).toNatClampNeg = p := nI_clamp (by omega)
    have i1 : vp_in (nI p) 14 := vp_in_nI (by omega) (by omega)
    have cN : (nI (gm_r G p)).toNatClampNeg = gm_r G p := nI_clamp (by omega)
    have iN : vp_in (nI (gm_r G p)) 6 := vp_in_nI (by omega) (by omega)
    have cI : (nI (gm_r G p * 22 + i)).toNatClampNeg = gm_r G p * 22 + i := nI_clamp (by omega)
    have iI : vp_in (nI (gm_r G p * 22 + i)) 132 := vp_in_nI (by omega) (by omega)
    have cL : (nI (gm_l G p)).toNatClampNeg = gm_l G p := nI_clamp (by omega)
    have iL : vp_in (nI (gm_l G p)) 5 := vp_in_nI (by omega) (by omega)
    rw [wY_settle_10]
    dsimp only
    rw [c1]
    refine br_f (by rw [e0]; exact nI_ge (by omega) (by omega)) ⟨i1, nm_r (hy.2 p hpn).1 ?_⟩
    refine ym_walk hG.1 hy hw0 (yt_sb h4 hs) hpn hi _ (fun r WY' hr hwy => ?_)
    dsimp only
    rw [ba_22x, cI, (hy.2 p hpn).2.2.1, cL, cN]
    refine ⟨iI, i1, iL, nm_e ?_⟩
    have hway := hwy (gm_l G p) (Nat.le_refl _)
    -- the common end: z is what beyond gains
    have fin : ∀ z : Int32, (∀ t, bt z t = true → t = i ∧ yw_p G w wn RE BE p i) → (yw_p G w wn RE BE p i → bt (BE (gm_r G p) ||| z) i = true) → wY_settle_86 post J2 (wY_settle_10 post J2 (nI i) (d + 1)) (nI i) x2 (nI p) (nI (gm_r G p)) (RE (gm_r G p * 22 + i) ||| WY' (gm_l G p)) (BE (gm_r G p) ||| z) f_np f_built f_some f_empty f_wn f_nt a_pRule a_pScope a_pLen a_sym a_role a_first a_follow a_kind a_val a_len a_word RE BE WY' a_known a_bad a_part a_scopes a_inner a_tRule a_tFrom a_tTo a_before := by
      intro z hz1 hz2
      have hm := ys_up (RE := RE) (BE := BE) (y := WY' (gm_l G p)) (z := z) (i := i) (n := gm_r G p) (by omega) h6
      have kR : ∀ k t, bt (RE k) t = true → bt (upd RE (gm_r G p * 22 + i) (RE (gm_r G p * 22 + i) ||| WY' (gm_l G p)) k) t = true := by
        intro k t h
        rw [ba_up]; split
        · next e => subst e; rw [b_or, h]; rfl
        · exact h
      have kB : ∀ k t, bt (BE k) t = true → bt (upd BE (gm_r G p) (BE (gm_r G p) ||| z) k) t = true := by
        intro k t h
        rw [ba_up]; split
        · next e => subst e; rw [b_or, h]; rfl
        · exact h
      have s' : yt_s G w wn (upd RE (gm_r G p * 22 + i) (RE (gm_r G p * 22 + i) ||| WY' (gm_l G p))) (upd BE (gm_r G p) (BE (gm_r G p) ||| z)) := by
        refine ⟨fun n j t ⟨q1, q2, q3, q4⟩ => ?_, fun n hn hu j hj q => ?_⟩
        · rw [ba_up] at q4; split at q4
          · next e =>
            have e1 : n = gm_r G p := by omega
            have e2 : j = i := by omega
            subst e1 e2
            rw [b_or, Bool.or_eq_true] at q4
            rcases q4 with q4 | q4
            · exact hs.1 _ _ _ ⟨q1, q2, q3, q4⟩
            · exact dr_D_of hpn (dr_sg_m1 hs.1 ((hway t q3).mp q4))
          · exact hs.1 _ _ _ ⟨q1, q2, q3, q4⟩
        · rw [ba_up] at q; split at q
          · next e =>
            subst e
            rw [b_or, Bool.or_eq_true] at q
            rcases q with q | q
            · exact hs.2 _ hn hu j hj q
            · obtain ⟨e, hp'⟩ := hz1 j q
              subst e
              exact yt_ps hG hs hpn hp'
          · exact hs.2 n hn hu j hj q
      have c' := yt_cm kR kB hc
      have changed : ¬ ((RE (gm_r G p * 22 + i) ||| WY' (gm_l G p)) = RE (gm_r G p * 22 + i) ∧ (BE (gm_r G p) ||| z) = BE (gm_r G p)) → wY_settle_117 post J2 (wY_settle_10 post J2 (nI i) (d + 1)) (nI i) (nI p) (nI (gm_r G p)) (RE (gm_r G p * 22 + i) ||| WY' (gm_l G p)) (BE (gm_r G p) ||| z) f_np f_built f_some f_empty f_wn f_nt a_pRule a_pScope a_pLen a_sym a_role a_first a_follow a_kind a_val a_len a_word RE BE WY' a_known a_bad a_part a_scopes a_inner a_tRule a_tFrom a_tTo a_before := by
        intro hne
        unfold wY_settle_117 wY_settle_119
        rw [ba_22x, cI, cN]
        refine ⟨iI, nm_e ⟨iN, nm_e (nm_r (nI_1 p) (ih (p + 1) 1 _ _ WY' (by omega) s' c' (Or.inr ⟨rfl, ?_⟩)))⟩⟩
        have := hm.2 hne
        rcases hx with ⟨_, e1, e2, _⟩ | ⟨_, hl⟩
        · subst e1 e2; exact this
        · omega
      unfold wY_settle_86
      rw [ba_22x, cI, cN]
      refine ⟨iI, br_c (fun e1 => ⟨iN, br_c (fun e2 => ?_) (fun e2 => changed (fun y => e2 y.2))⟩) (fun e1 => changed (fun y => e1 y.1))⟩
      unfold wY_settle_119
      rw [ba_22x, cI, cN]
      refine ⟨iI, nm_e ⟨iN, nm_e (nm_r (nI_1 p) ?_)⟩⟩
      rw [ys_same e1, ys_same e2]
      refine ih (p + 1) x2 RE BE WY' (by omega) hs hc ?_
      rcases hx with ⟨x1, x2, x3, x4⟩ | hl
      · refine Or.inl ⟨x1, x2, x3, fun p' hp' => ?_⟩
        rcases Nat.lt_or_ge p' p with y | y
        · exact x4 p' y
        · have e : p' = p := by omega
          subst e
          subst x2 x3
          refine ⟨fun t ht q => ?_, fun q => ?_⟩
          · rw [← e1, b_or, Bool.or_eq_true]
            exact Or.inr ((hway t ht).mpr q)
          · rw [← e2]; exact hz2 q
      · exact Or.inr hl
    rcases hr with ⟨rfl, hr⟩ | ⟨rfl, hr⟩
    · refine br_f (by decide) ⟨iN, fin _ (fun t q => ?_) (fun _ => ?_)⟩
      · rcases Nat.lt_or_ge t 32 with y | y
        · rw [ba_one i (by omega) t y, decide_eq_true_iff] at q
          exact ⟨q, hr⟩
        · rw [b_big y] at q; exact absurd q (by decide)
      · exact (ba_oone (by omega)).mpr (Or.inr rfl)
    · have f0 := fin 0 (fun t q => by rw [b_0] at q; exact absurd q (by decide)) (fun q => absurd q hr)
      rw [show BE (gm_r G p) ||| 0 = BE (gm_r G p) from b_ext (fun i _ => by rw [b_or, b_0, Bool.or_false])] at f0
      exact br_t rfl ⟨iN, f0⟩
theorem ym_s2 (hG : gm_gd G) (hy : yg_ok G f_np a_pRule a_pScope a_pLen a_sym a_role) {w : Nat → Nat} {wn i : Nat} (hw : yt_w w wn f_wn a_word) (hi : i ≤ wn) (post : SY → Prop) (hP : ∀ RE BE WY, yt_s G w wn RE BE → yt_c G w wn i RE BE → post (f_np, f_built, f_some, f_empty, f_wn, f_nt, a_pRule, a_pScope, a_pLen, a_sym, a_role, a_first, a_follow, a_kind, a_val, a_len, a_word, RE, BE, WY, a_known, a_bad, a_part, a_scopes, a_inner, a_tRule, a_tFrom, a_tTo, a_before)) :
    ∀ μ RE BE WY, ys_u i RE BE < μ → yt_s G w wn RE BE → yt_c G w wn (i + 1) RE BE → wY_settle_2 post (nI i) (μ + 1) 1 f_np f_built f_some f_empty f_wn f_nt a_pRule a_pScope a_pLen a_sym a_role a_first a_follow a_kind a_val a_len a_word RE BE WY a_known a_bad a_part a_scopes a_inner a_tRule a_tFrom a_tTo a_before := by
  intro μ
  induction μ with
  | zero => intro RE BE WY h; omega
  | succ μ ih =>
    intro RE BE WY hm hs hc
    rw [wY_settle_2]
    dsimp only
    refine br_f (by decide) ⟨gm_n G + 1, ym_s10 hG hy hw hi (RE0 := RE) (BE0 := BE) post _ (fun WY' a b => ?_) (fun RE' BE' WY' a b c => ih RE' BE' WY' (by omega) a b) (gm_n G) 0 0 RE BE WY (by omega) hs hc (Or.inl ⟨rfl, rfl, rfl, fun p' h => by omega⟩)⟩
    rw [wY_settle_2]
    dsimp only
    exact br_t rfl (hP RE BE WY' a b)
theorem ym_settle (hG : gm_gd G) (hy : yg_ok G f_np a_pRule a_pScope a_pLen a_sym a_role) {w : Nat → Nat} {wn i : Nat} (hw : yt_w w wn f_wn a_word) (hi : i ≤ wn) (hs : yt_s G w wn a_reach a_beyond) (hc : yt_c G w wn (i + 1) a_reach a_beyond) (post : SY → Prop) (hP : ∀ RE BE WY, yt_s G w wn RE BE → yt_c G w wn i RE BE → post (f_np, f_built, f_some, f_empty, f_wn, f_nt, a_pRule, a_pScope, a_pLen, a_sym, a_role, a_first, a_follow, a_kind, a_val, a_len, a_word, RE, BE, WY, a_known, a_bad, a_part, a_scopes, a_inner, a_tRule, a_tFrom, a_tTo, a_before)) : wpY_settle post (f_np, f_built, f_some, f_empty, f_wn, f_nt, a_pRule, a_pScope, a_pLen, a_sym, a_role, a_first, a_follow, a_kind, a_val, a_len, a_word, a_reach, a_beyond, a_way, a_known, a_bad, a_part, a_scopes, a_inner, a_tRule, a_tFrom, a_tTo, a_before) (nI i) :=
  ⟨ys_u i a_reach a_beyond + 1 + 1, ym_s2 hG hy hw hi post hP (ys_u i a_reach a_beyond + 1) a_reach a_beyond a_way (by omega) hs hc⟩
theorem ym_t121 (hG : gm_gd G) (hy : yg_ok G f_np a_pRule a_pScope a_pLen a_sym a_role) {w : Nat → Nat} {wn : Nat} (hw : yt_w w wn f_wn a_word) (post : SY → Prop) (hP : ∀ RE BE WY, yt_s G w wn RE BE → yt_c G w wn 0 RE BE → post (f_np, f_built, f_some, f_empty, f_wn, f_nt, a_pRule, a_pScope, a_pLen, a_sym, a_role, a_first, a_follow, a_kind, a_val, a_len, a_word, RE, BE, WY, a_known, a_bad, a_part, a_scopes, a_inner, a_tRule, a_tFrom, a_tTo, a_before)) :
    ∀ a RE BE WY, a ≤ wn + 1 → yt_s G w wn RE BE → yt_c G w wn a RE BE → wY_take_121 post (a + 1) (nI a - 1) f_np f_built f_some f_empty f_wn f_nt a_pRule a_pScope a_pLen a_sym a_role a_first a_follow a_kind a_val a_len a_word RE BE WY a_known a_bad a_part a_scopes a_inner a_tRule a_tFrom a_tTo a_before := by
  intro a
  induction a with
  | zero =>
    intro RE BE WY _ hs hc
    rw [wY_take_121]
    dsimp only
    exact br_t (by decide) (hP RE BE WY hs hc)
  | succ a ih =>
    intro RE BE WY ha hs hc
    have := hw.2.1
    rw [wY_take_121]
    dsimp only
    rw [nI_pred]
    exact br_f (nI_pos (by omega)) (ym_settle hG hy hw (by omega) hs hc _ (fun RE' BE' WY' q1 q2 => nm_r ba_s (ih RE' BE' WY' (by omega) q1 q2)))
theorem ym_t89 {wn : Nat} (hw : f_wn = nI wn) (hn : wn ≤ 21) (post : SY → Prop) (hP : ∀ BE, (∀ n, n < 6 → ∀ t, t < 32 → (bt (BE n) t = true ↔ t = wn)) → ∃ f, wY_take_121 post f f_wn f_np f_built f_some f_empty f_wn f_nt a_pRule a_pScope a_pLen a_sym a_role a_first a_follow a_kind a_val a_len a_word a_reach BE a_way a_known a_bad a_part a_scopes a_inner a_tRule a_tFrom a_tTo a_before) :
    ∀ d k BE, k + d = 6 → (∀ n, n < k → ∀ t, t < 32 → (bt (BE n) t = true ↔ t = wn)) → wY_take_89 post f_np f_built f_some f_empty f_wn f_nt (d + 1) (nI k) a_pRule a_pScope a_pLen a_sym a_role a_first a_follow a_kind a_val a_len a_word a_reach BE a_way a_known a_bad a_part a_scopes a_inner a_tRule a_tFrom a_tTo a_before := by
  intro d
  induction d with
  | zero =>
    intro k BE hk hI
    rw [wY_take_89]
    dsimp only
    exact br_t (nI_le (a := 6) (by omega) (by omega)) (hP BE (fun n hn => hI n (by omega)))
  | succ d ih =>
    intro k BE hk hI
    have c1 : (nI k).toNatClampNeg = k := nI_clamp (by omega)
    rw [wY_take_89]
    dsimp only
    rw [c1]
    refine br_f (nI_ge (b := 6) (by omega) (by omega)) ⟨vp_in_nI (by omega) (by omega), nm_e (nm_r (nI_1 k) (ih (k + 1) _ (by omega) (fun n hn t ht => ?_)))⟩
    rcases Classical.em (n = k) with e | e
    · subst e
      rw [pk_us, hw, ba_one wn (by omega) t ht, decide_eq_true_iff]
    · rw [pk_un e]; exact hI n (by omega) t ht
theorem ym_t64 (post : SY → Prop) (hP : ∀ RE, (∀ x, x < 132 → RE x = 0) → ∃ f, wY_take_89 post f_np f_built f_some f_empty f_wn f_nt f 0 a_pRule a_pScope a_pLen a_sym a_role a_first a_follow a_kind a_val a_len a_word RE a_beyond a_way a_known a_bad a_part a_scopes a_inner a_tRule a_tFrom a_tTo a_before) :
    ∀ d k RE, k + d = 132 → (∀ x, x < k → RE x = 0) → wY_take_64 post f_np f_built f_some f_empty f_wn f_nt (d + 1) (nI k) a_pRule a_pScope a_pLen a_sym a_role a_first a_follow a_kind a_val a_len a_word RE a_beyond a_way a_known a_bad a_part a_scopes a_inner a_tRule a_tFrom a_tTo a_before := by
  intro d
  induction d with
  | zero =>
    intro k RE hk hI
    rw [wY_take_64]
    dsimp only
    exact br_t (nI_le (a := 132) (by omega) (by omega)) (hP RE (fun n hn => hI n (by omega)))
  | succ d ih =>
    intro k RE hk hI
    have c1 : (nI k).toNatClampNeg = k := nI_clamp (by omega)
    rw [wY_take_64]
    dsimp only
    rw [c1]
    refine br_f (nI_ge (b := 132) (by omega) (by omega)) ⟨vp_in_nI (by omega) (by omega), nm_e (nm_r (nI_1 k) (ih (k + 1) _ (by omega) (fun n hn => ?_)))⟩
    rcases Classical.em (n = k) with e | e
    · subst e; rw [pk_us]
    · rw [pk_un e]; exact hI n (by omega)
/-- from the word on -/
theorem ym_tw (hG : gm_gd G) (hy : yg_ok G f_np a_pRule a_pScope a_pLen a_sym a_role) {w : Nat → Nat} {wn : Nat} (hw : yt_w w wn f_wn a_word) (post : SY → Prop) (hP : ∀ RE BE WY, yt_s G w wn RE BE → yt_c G w wn 0 RE BE → post (f_np, f_built, f_some, f_empty, f_wn, f_nt, a_pRule, a_pScope, a_pLen, a_sym, a_role, a_first, a_follow, a_kind, a_val, a_len, a_word, RE, BE, WY, a_known, a_bad, a_part, a_scopes, a_inner, a_tRule, a_tFrom, a_tTo, a_before)) : ∃ f, wY_take_64 post f_np f_built f_some f_empty f_wn f_nt f 0 a_pRule a_pScope a_pLen a_sym a_role a_first a_follow a_kind a_val a_len a_word a_reach a_beyond a_way a_known a_bad a_part a_scopes a_inner a_tRule a_tFrom a_tTo a_before := by
  have hn := hw.2.1
  refine ⟨132 + 1, ym_t64 post (fun RE hRE => ⟨6 + 1, ym_t89 hw.1 hn post (fun BE hBE => ⟨wn + 1 + 1, ?_⟩) 6 0 a_beyond (by omega) (fun n h => by omega)⟩) 132 0 a_reach (by omega) (fun x h => by omega)⟩
  have q := ym_t121 hG hy hw post hP (wn + 1) RE BE a_way (by omega) ⟨fun n j t ⟨q1, q2, q3, q4⟩ => ?_, fun n hn6 hu j hj q => ?_⟩ ⟨fun n j t a b _ => by omega, fun n _ _ j a b _ => by omega⟩
  · rw [nI_pred, ← hw.1] at q
    exact q
  · rw [hRE _ (by omega), b_0] at q4
    exact absurd q4 (by decide)
  · have e := (hBE n hn6 j (by omega)).mp q
    subst e
    obtain ⟨k, hk⟩ := hG.2.1 n hn6 hu
    obtain ⟨w', t, a, b, c⟩ := dr_pr_of k n hk w j
    exact ⟨w', t, a, b, c⟩
theorem ym_t3 (hG : gm_gd G) (hy : yg_ok G f_np a_pRule a_pScope a_pLen a_sym a_role) {w : Nat → Nat} {f n wn : Nat} {x3 : Int32} (hf : f < 4) (hn : n ≤ 20) (hx : x3 = -1 ∧ wn = n ∨ wn = n + 1 ∧ x3 = nI (w n) ∧ w n < 10) (hk : ∀ x, x < n → a_kind (f * 20 + x) = nI (w x) ∧ w x < 10) (h4 : ∀ x, wn ≤ x → w x = 10) (post : SY → Prop) (hP : ∀ WO RE BE WY, yt_w w wn (nI wn) WO → yt_s G w wn RE BE → yt_c G w wn 0 RE BE → post (f_np, f_built, f_some, f_empty, nI wn, f_nt, a_pRule, a_pScope, a_pLen, a_sym, a_role, a_first, a_follow, a_kind, a_val, a_len, WO, RE, BE, WY, a_known, a_bad, a_part, a_scopes, a_inner, a_tRule, a_tFrom, a_tTo, a_before)) :
    ∀ d k WO, k + d = n → (∀ x, x < k → WO x = nI (w x)) → wY_take_3 post (nI f) (nI n) x3 f_np f_built f_some f_empty f_wn f_nt (d + 1) (nI k) a_pRule a_pScope a_pLen a_sym a_role a_first a_follow a_kind a_val a_len WO a_reach a_beyond a_way a_known a_bad a_part a_scopes a_inner a_tRule a_tFrom a_tTo a_before := by
  intro d
  induction d with
  | zero =>
    intro k WO hkn hI
    have e : k = n := by omega
    subst e
    have cK : (nI k).toNatClampNeg = k := nI_clamp (by omega)
    rw [wY_take_3]
    dsimp only
    refine br_t (nI_le (by omega) (by omega)) ?_
    rcases hx with ⟨rfl, rfl⟩ | ⟨rfl, rfl, h10⟩
    · have hw : yt_w w wn (nI wn) WO := ⟨rfl, by omega, fun x hx => ⟨hI x hx, (hk x hx).2⟩, h4⟩
      exact br_t (by decide) (ym_tw hG hy hw post (fun RE BE WY a b => hP WO RE BE WY hw a b))
    · have hw : yt_w w (k + 1) (nI (k + 1)) (upd WO k (nI (w k))) := ⟨rfl, by omega, fun x hx => by
        rcases Classical.em (x = k) with e | e
        · subst e; rw [pk_us]; exact ⟨rfl, h10⟩
        · rw [pk_un e]; exact ⟨hI x (by omega), (hk x (by omega)).2⟩, h4⟩
      refine br_f (nI_pos (by omega)) (nm_r (nI_1 k) ?_)
      rw [cK]
      refine ⟨vp_in_nI (by omega) (by omega), nm_r (congrArg _ (by rw [ba_nb _ (by omega), ba_vb (by omega)])) (ym_tw hG hy hw post (fun RE BE WY a b => hP _ RE BE WY hw a b))⟩
  | succ d ih =>
    intro k WO hkn hI
    obtain ⟨e1, e2⟩ := hk k (by omega)
    have cK : (nI k).toNatClampNeg = k := nI_clamp (by omega)
    have cI : (nI (f * 20 + k)).toNatClampNeg = f * 20 + k := nI_clamp (by omega)
    rw [wY_take_3]
    dsimp only
    rw [ba_20x, cI, cK, e1]
    refine br_f (nI_ge (by omega) (by omega)) ⟨vp_in_nI (by omega) (by omega), vp_in_nI (by omega) (by omega), nm_r (congrArg _ (ba_vb (by omega))) (nm_r (nI_1 k) (ih (k + 1) _ (by omega) (fun x hx => ?_)))⟩
    rcases Classical.em (x = k) with e | e
    · subst e; rw [pk_us]
    · rw [pk_un e]; exact hI x (by omega)
theorem ym_take (hG : gm_gd G) (hy : yg_ok G f_np a_pRule a_pScope a_pLen a_sym a_role) {w : Nat → Nat} {f n wn : Nat} {x3 : Int32} (hf : f < 4) (hn : n ≤ 20) (hx : x3 = -1 ∧ wn = n ∨ wn = n + 1 ∧ x3 = nI (w n) ∧ w n < 10) (hk : ∀ x, x < n → a_kind (f * 20 + x) = nI (w x) ∧ w x < 10) (h4 : ∀ x, wn ≤ x → w x = 10) (post : SY → Prop) (hP : ∀ WO RE BE WY, yt_w w wn (nI wn) WO → yt_s G w wn RE BE → yt_c G w wn 0 RE BE → post (f_np, f_built, f_some, f_empty, nI wn, f_nt, a_pRule, a_pScope, a_pLen, a_sym, a_role, a_first, a_follow, a_kind, a_val, a_len, WO, RE, BE, WY, a_known, a_bad, a_part, a_scopes, a_inner, a_tRule, a_tFrom, a_tTo, a_before)) : wpY_take post (f_np, f_built, f_some, f_empty, f_wn, f_nt, a_pRule, a_pScope, a_pLen, a_sym, a_role, a_first, a_follow, a_kind, a_val, a_len, a_word, a_reach, a_beyond, a_way, a_known, a_bad, a_part, a_scopes, a_inner, a_tRule, a_tFrom, a_tTo, a_before) (nI f) (nI n) x3 :=
  ⟨n + 1, ym_t3 hG hy hf hn hx hk h4 post hP n 0 a_word (by omega) (fun x h => by omega)⟩
end
