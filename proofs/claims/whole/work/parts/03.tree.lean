/-! words for productive rules and for FIRST -/
theorem dr_sy_w {G : gm_G} {w w' : Nat → Nat} {s i j : Nat} (hw : ∀ x, i ≤ x → x < j → w x = w' x) (h : dr_sy (dr_D G w) w s i j) : dr_sy (dr_D G w') w' s i j := by
  rcases h with ⟨a, b, c⟩ | ⟨a, b⟩
  · exact Or.inl ⟨a, by rw [← hw i (Nat.le_refl _) (by omega)]; exact b, c⟩
  · exact Or.inr ⟨a, dr_D_w hw b⟩
def dr_pr (G : gm_G) (n : Nat) : Prop := ∀ (w : Nat → Nat) (i : Nat), ∃ w' j, (∀ x, x < i → w' x = w x) ∧ i ≤ j ∧ dr_D G w' n i j
theorem dr_prs {G : gm_G} {p : Nat} : ∀ c m, (∀ q, m ≤ q → q < m + c → 10 ≤ gm_s G p q → dr_pr G (gm_s G p q - 10)) → ∀ (w : Nat → Nat) (i : Nat), ∃ w' j, (∀ x, x < i → w' x = w x) ∧ i ≤ j ∧ dr_S G w' p c m i j
  | 0, m, _, w, i => ⟨w, i, fun _ _ => rfl, Nat.le_refl _, rfl⟩
  | c + 1, m, h, w, i => by
    obtain ⟨w1, k, a1, l1, s1⟩ : ∃ w1 k, (∀ x, x < i → w1 x = w x) ∧ i ≤ k ∧ dr_sy (dr_D G w1) w1 (gm_s G p m) i k := by
      rcases Nat.lt_or_ge (gm_s G p m) 10 with z | z
      · exact ⟨fun x => if x = i then gm_s G p m else w x, i + 1, fun x hx => if_neg (by omega), by omega, Or.inl ⟨z, if_pos rfl, rfl⟩⟩
      · obtain ⟨w1, k, a, l, d⟩ := h m (Nat.le_refl _) (by omega) z w i
        exact ⟨w1, k, a, l, Or.inr ⟨z, d⟩⟩
    obtain ⟨w2, j, a2, l2, s2⟩ := dr_prs c (m + 1) (fun q q1 q2 => h q (by omega) (by omega)) w1 k
    exact ⟨w2, j, fun x hx => (a2 x (by omega)).trans (a1 x hx), by omega, k, dr_sy_w (fun x _ x2 => (a2 x x2).symm) s1, s2⟩
theorem dr_pr_of {G : gm_G} : ∀ k n, fx_L (gm_mF G) k n → dr_pr G n
  | 0, _, h => h.elim
  | k + 1, n, ⟨_, p, a, b, h⟩ => by
    intro w i
    obtain ⟨w', j, x, y, z⟩ := dr_prs (gm_l G p) 0 (fun q _ q2 q3 => dr_pr_of k _ (h q (by omega) q3)) w i
    exact ⟨w', j, x, y, b ▸ dr_D_of a z⟩
theorem dr_prg {G : gm_G} (hG : gm_gd G) {p : Nat} (hv : gm_v G p) {m : Nat} (hm : m < gm_l G p) (h : 10 ≤ gm_s G p m) : dr_pr G (gm_s G p m - 10) := by
  have hu : gm_s G p m - 10 < 6 ∧ gm_us G (gm_s G p m - 10) := by
    rcases hv with hv | rfl
    · have := ((hG.1.2.1 p hv).2.2.2 m hm).1
      exact ⟨by omega, Or.inr ⟨p, hv, Or.inr ⟨m, hm, by omega⟩⟩⟩
    · have a := hG.1.2.2.2.1
      have b := hG.1.2.2.2.2.1
      have e : m = 0 := by omega
      subst e
      rw [b]
      exact ⟨by omega, Or.inl rfl⟩
  obtain ⟨k, hk⟩ := hG.2.1 _ hu.1 hu.2
  exact dr_pr_of k _ hk
def dr_fr (G : gm_G) (t n : Nat) : Prop := ∀ (w : Nat → Nat) (i : Nat), ∃ w' j, (∀ x, x < i → w' x = w x) ∧ w' i = t ∧ i < j ∧ dr_D G w' n i j
theorem dr_frs {G : gm_G} (hG : gm_gd G) {p : Nat} (hv : gm_v G p) {t : Nat} (ht : t < 10) {P : Nat → Prop} (hP : ∀ n, P n → dr_fr G t n) {m : Nat} (h : gm_fs G (gm_U G) P t p m) (w : Nat → Nat) (i : Nat) : ∃ w' j, (∀ x, x < i → w' x = w x) ∧ w' i = t ∧ i < j ∧ dr_S G w' p (gm_l G p - m) m i j := by
  obtain ⟨m', h1, h2, h3, h4⟩ := h
  obtain ⟨w1, k, a1, b1, l1, s1⟩ : ∃ w1 k, (∀ x, x < i → w1 x = w x) ∧ w1 i = t ∧ i < k ∧ dr_sy (dr_D G w1) w1 (gm_s G p m') i k := by
    rcases h4 with z | ⟨z, z'⟩
    · exact ⟨fun x => if x = i then t else w x, i + 1, fun x hx => if_neg (by omega), if_pos rfl, by omega, Or.inl ⟨by omega, by rw [z]; exact if_pos rfl, rfl⟩⟩
    · obtain ⟨w1, k, a, b, l, d⟩ := hP _ z' w i
      exact ⟨w1, k, a, b, l, Or.inr ⟨z, d⟩⟩
  obtain ⟨w2, j, a2, l2, s2⟩ := dr_prs (G := G) (p := p) (gm_l G p - (m' + 1)) (m' + 1) (fun q q1 q2 q3 => dr_prg hG hv (by omega) q3) w1 k
  refine ⟨w2, j, fun x hx => (a2 x (by omega)).trans (a1 x hx), (a2 i l1).trans b1, by omega, ?_⟩
  have q1 : dr_S G w2 p (m' - m) m i i := dr_uq i (by rw [show m + (m' - m) = m' from by omega]; exact h3)
  have q2 : dr_S G w2 p (gm_l G p - (m' + 1) + 1) m' i j := ⟨k, dr_sy_w (fun x _ x2 => (a2 x x2).symm) s1, s2⟩
  rw [show gm_l G p - m = (m' - m) + (gm_l G p - (m' + 1) + 1) from by omega]
  exact dr_app (m' - m) m i q1 (by rw [show m + (m' - m) = m' from by omega]; exact q2)
theorem dr_fr_of {G : gm_G} (hG : gm_gd G) {t : Nat} : ∀ k n, fx_L (gm_fF G t) k n → dr_fr G t n
  | 0, _, h => h.elim
  | k + 1, n, ⟨_, ht, p, a, b, h⟩ => by
    intro w i
    obtain ⟨w', j, x, y, z, q⟩ := dr_frs hG (Or.inl a) ht (dr_fr_of hG k) h w i
    exact ⟨w', j, x, y, z, b ▸ dr_D_of a q⟩
theorem dr_Fw {G : gm_G} (hG : gm_gd G) {t n : Nat} (h : gm_F G t n) : dr_fr G t n := by
  obtain ⟨k, h⟩ := h
  exact dr_fr_of hG k n h
theorem dr_fqw {G : gm_G} (hG : gm_gd G) {p : Nat} (hv : gm_v G p) {t m : Nat} (h : gm_fq G t p m) (w : Nat → Nat) (i : Nat) : ∃ w' j, (∀ x, x < i → w' x = w x) ∧ w' i = t ∧ i < j ∧ dr_S G w' p (gm_l G p - m) m i j :=
  dr_frs hG hv h.1 (fun _ z => dr_Fw hG z) h.2 w i
theorem dr_prw {G : gm_G} (hG : gm_gd G) {p : Nat} (hv : gm_v G p) (m : Nat) (w : Nat → Nat) (i : Nat) : ∃ w' j, (∀ x, x < i → w' x = w x) ∧ i ≤ j ∧ dr_S G w' p (gm_l G p - m) m i j :=
  dr_prs _ m (fun q q1 q2 q3 => dr_prg hG hv (by omega) q3) w i
/-! the grammar is good: one parse -/
theorem gm_W10 {G : gm_G} {t n : Nat} (h : gm_W G t n) : t ≤ 10 := (gm_We.mp h).2.1
theorem gm_v6 {G : gm_G} (hG : gm_ok G) {p : Nat} (hv : gm_v G p) : gm_r G p < 6 := by
  rcases hv with hv | rfl
  · exact (hG.2.1 p hv).1
  · rw [hG.2.2.1]; omega
theorem gm_vs {G : gm_G} (hG : gm_ok G) {p : Nat} (hv : gm_v G p) : gm_l G p ≤ 4 ∧ ∀ m, m < gm_l G p → gm_s G p m < 16 := by
  rcases hv with hv | rfl
  · exact ⟨(hG.2.1 p hv).2.1, fun m hm => ((hG.2.1 p hv).2.2.2 m hm).1⟩
  · refine ⟨by rw [hG.2.2.2.1]; omega, fun m hm => ?_⟩
    rw [hG.2.2.2.1] at hm
    have e : m = 0 := by omega
    subst e
    rw [hG.2.2.2.2.1]; omega
theorem gm_v14 {G : gm_G} (hG : gm_ok G) {p : Nat} (hv : gm_v G p) : p < 15 := by
  rcases hv with hv | rfl
  · have := hG.1; omega
  · omega
theorem ll_P {G : gm_G} (hG : gm_ok G) {w : Nat → Nat} {p i j : Nat} (h : dr_S G w p (gm_l G p) 0 i j) (hf : gm_W G (w j) (gm_r G p)) : gm_P G (w i) p ∧ w i ≤ 10 := by
  have l := dr_S_le h
  rcases Nat.lt_or_ge i j with z | z
  · have := dr_fq hG (by omega) h z
    exact ⟨Or.inl this, by have := this.1; omega⟩
  · have e : i = j := by omega
    subst e
    have := dr_qu hG h
    rw [Nat.zero_add] at this
    exact ⟨Or.inr ⟨this, hf⟩, gm_W10 hf⟩
theorem ll_un {G : gm_G} (hG : gm_gd G) {p q t : Nat} (hp : p < gm_n G) (hq : q < gm_n G) (hr : gm_r G p = gm_r G q) (ht : t ≤ 10) (a : gm_P G t p) (b : gm_P G t q) : p = q := by
  rcases Nat.lt_trichotomy p q with h | h | h
  · exact (hG.2.2 q p t hq h hr ht a b).elim
  · exact h
  · exact (hG.2.2 p q t hp h hr.symm ht b a).elim
theorem ll_F {G : gm_G} (hG : gm_ok G) {w : Nat → Nat} {p m n k j : Nat} (hv : gm_v G p) (hm : m < gm_l G p) (hs : gm_s G p m = 10 + n) (h : dr_S G w p (gm_l G p - (m + 1)) (m + 1) k j) (hf : gm_W G (w j) (gm_r G p)) : gm_W G (w k) n := by
  have l := dr_S_le h
  have h16 := (gm_vs hG hv).2 m hm
  rcases hv with hv | rfl
  · rcases Nat.lt_or_ge k j with z | z
    · have q := dr_fq hG (by omega) h z
      exact gm_We.mpr ⟨by omega, by have := q.1; omega, Or.inr ⟨p, m, hv, hm, hs, Or.inl q⟩⟩
    · have e : k = j := by omega
      subst e
      have q := dr_qu hG h
      rw [show m + 1 + (gm_l G p - (m + 1)) = gm_l G p from by omega] at q
      exact gm_We.mpr ⟨by omega, gm_W10 hf, Or.inr ⟨p, m, hv, hm, hs, Or.inr ⟨q, hf⟩⟩⟩
  · have a := hG.2.2.2.1
    have b := hG.2.2.2.2.1
    have e : m = 0 := by omega
    subst e
    rw [a] at h
    have e : k = j := h
    subst e
    rw [b] at hs
    have e : n = 0 := by omega
    subst e
    rw [hG.2.2.1] at hf
    exact hf
theorem ll_Ks {G : gm_G} (hG : gm_gd G) {w : Nat → Nat} {p : Nat} (hv : gm_v G p) {R : Nat → Nat → Nat → Prop} (hD : ∀ n i j, R n i j → dr_D G w n i j) (IH : ∀ n i j j', R n i j → dr_D G w n i j' → gm_W G (w j) n → gm_W G (w j') n → j = j') : ∀ c m i j j', m + c = gm_l G p → dr_sg G R w p c m i j → dr_S G w p c m i j' → gm_W G (w j) (gm_r G p) → gm_W G (w j') (gm_r G p) → j = j'
  | 0, _, _, _, _, _, a, b, _, _ => by have a : _ = _ := a; have b : _ = _ := b; omega
  | c + 1, m, i, j, j', hm, ⟨k, a, b⟩, ⟨k', a', b'⟩, f, f' => by
    have e : k = k' := by
      rcases a with ⟨x, y, z⟩ | ⟨x, y⟩
      · rcases a' with ⟨_, _, z'⟩ | ⟨x', _⟩
        · omega
        · omega
      · rcases a' with ⟨x', _, _⟩ | ⟨_, y'⟩
        · omega
        · have hs : gm_s G p m = 10 + (gm_s G p m - 10) := by omega
          have e : gm_l G p - (m + 1) = c := by omega
          exact IH _ _ _ _ y y' (ll_F hG.1 hv (by omega) hs (by rw [e]; exact dr_sg_m1 hD b) f) (ll_F hG.1 hv (by omega) hs (by rw [e]; exact b') f')
    subst e
    exact ll_Ks hG hv hD IH c (m + 1) k j j' (by omega) b b' f f'
theorem ll_K0 {G : gm_G} (hG : gm_gd G) {w : Nat → Nat} : ∀ a n i j j', dr_L G w a n i j → dr_D G w n i j' → gm_W G (w j) n → gm_W G (w j') n → j = j'
  | 0, _, _, _, _, h, _, _, _ => h.elim
  | a + 1, n, i, j, j', ⟨p, hp, hr, h⟩, h', f, f' => by
    obtain ⟨q, hq, hr', h'⟩ := dr_D_to h'
    have hS : dr_S G w p (gm_l G p) 0 i j := dr_sg_m1 (fun _ _ _ z => ⟨a, z⟩) h
    have P1 := ll_P hG.1 hS (by rw [hr]; exact f)
    have P2 := ll_P hG.1 h' (by rw [hr']; exact f')
    have e : p = q := ll_un hG hp hq (hr.trans hr'.symm) P1.2 P1.1 P2.1
    subst e
    exact ll_Ks hG (Or.inl hp) (fun _ _ _ z => ⟨a, z⟩) (ll_K0 hG a) _ 0 i j j' (by omega) h h' (by rw [hr]; exact f) (by rw [hr]; exact f')
theorem ll_K {G : gm_G} (hG : gm_gd G) {w : Nat → Nat} {n i j j' : Nat} (h : dr_D G w n i j) (h' : dr_D G w n i j') (f : gm_W G (w j) n) (f' : gm_W G (w j') n) : j = j' := by
  obtain ⟨a, h⟩ := h
  exact ll_K0 hG a n i j j' h h' f f'
theorem ll_sy {G : gm_G} (hG : gm_gd G) {w : Nat → Nat} {p : Nat} (hv : gm_v G p) {m i k k' j : Nat} (hm : m < gm_l G p) (a : dr_sy (dr_D G w) w (gm_s G p m) i k) (b : dr_S G w p (gm_l G p - (m + 1)) (m + 1) k j) (a' : dr_sy (dr_D G w) w (gm_s G p m) i k') (b' : dr_S G w p (gm_l G p - (m + 1)) (m + 1) k' j) (f : gm_W G (w j) (gm_r G p)) : k = k' := by
  rcases a with ⟨x, y, z⟩ | ⟨x, y⟩
  · rcases a' with ⟨_, _, z'⟩ | ⟨x', _⟩
    · omega
    · omega
  · rcases a' with ⟨x', _, _⟩ | ⟨_, y'⟩
    · omega
    · have hs : gm_s G p m = 10 + (gm_s G p m - 10) := by omega
      exact ll_K hG y y' (ll_F hG.1 hv hm hs b f) (ll_F hG.1 hv hm hs b' f)
theorem ll_sp {G : gm_G} (hG : gm_gd G) {w : Nat → Nat} {p : Nat} (hv : gm_v G p) {i j : Nat} (f : gm_W G (w j) (gm_r G p)) : ∀ m k k', m ≤ gm_l G p → dr_S G w p m 0 i k → dr_S G w p (gm_l G p - m) m k j → dr_S G w p m 0 i k' → dr_S G w p (gm_l G p - m) m k' j → k = k'
  | 0, _, _, _, a, _, a', _ => by have a : _ = _ := a; have a' : _ = _ := a'; omega
  | m + 1, k, k', hm, a, b, a', b' => by
    obtain ⟨q, c, d⟩ := dr_ns a
    obtain ⟨q', c', d'⟩ := dr_ns a'
    have e : gm_l G p - m = (gm_l G p - (m + 1)) + 1 := by omega
    have e : q = q' := ll_sp hG hv f m q q' (by omega) c (by rw [e]; exact ⟨k, d, b⟩) c' (by rw [e]; exact ⟨k', d', b'⟩)
    subst e
    exact ll_sy hG hv (by omega) d b d' b' f
theorem ll_mo {G : gm_G} (hG : gm_gd G) {w : Nat → Nat} {p : Nat} (hv : gm_v G p) {i j : Nat} (f : gm_W G (w j) (gm_r G p)) {m m' k k' : Nat} (hm : m ≤ m') (hm' : m' ≤ gm_l G p) (a : dr_S G w p m 0 i k) (b : dr_S G w p (gm_l G p - m) m k j) (a' : dr_S G w p m' 0 i k') (b' : dr_S G w p (gm_l G p - m') m' k' j) : k ≤ k' := by
  rw [show m' = m + (m' - m) from by omega] at a'
  obtain ⟨q, c, d⟩ := dr_spl m 0 i a'
  rw [Nat.zero_add] at d
  have l := dr_S_le d
  have e : k = q := ll_sp hG hv f m k q (by omega) a b c (by
    rw [show gm_l G p - m = (m' - m) + (gm_l G p - m') from by omega]
    exact dr_app (m' - m) m q d (by rw [show m + (m' - m) = m' from by omega]; exact b'))
  omega
/-! symbol m of a node (p, I, J) over [i, j) -/
def tr_C (G : gm_G) (w : Nat → Nat) (p I J m i j : Nat) : Prop := m < gm_l G p ∧ dr_S G w p m 0 I i ∧ dr_sy (dr_D G w) w (gm_s G p m) i j ∧ dr_S G w p (gm_l G p - (m + 1)) (m + 1) j J
theorem tr_C0 {G : gm_G} {w : Nat → Nat} {p I J m i j : Nat} (h : tr_C G w p I J m i j) : dr_S G w p (gm_l G p - m) m i J := by
  have := h.1
  rw [show gm_l G p - m = (gm_l G p - (m + 1)) + 1 from by omega]
  exact ⟨j, h.2.2.1, h.2.2.2⟩
theorem tr_Cle {G : gm_G} {w : Nat → Nat} {p I J m i j : Nat} (h : tr_C G w p I J m i j) : I ≤ i ∧ i ≤ j ∧ j ≤ J := ⟨dr_S_le h.2.1, dr_sy_le dr_D_le h.2.2.1, dr_S_le h.2.2.2⟩
theorem tr_Cm {G : gm_G} (hG : gm_gd G) {w : Nat → Nat} {p I J : Nat} (hv : gm_v G p) (f : gm_W G (w J) (gm_r G p)) {m i j m' i' j' : Nat} (h : tr_C G w p I J m i j) (h' : tr_C G w p I J m' i' j') (l : m < m') : j ≤ i' :=
  ll_mo hG hv f (Nat.succ_le_of_lt l) (Nat.le_of_lt h'.1) (dr_sn h.2.1 h.2.2.1) h.2.2.2 h'.2.1 (tr_C0 h')
theorem tr_Cs {G : gm_G} (hG : gm_gd G) {w : Nat → Nat} {p I J : Nat} (hv : gm_v G p) (f : gm_W G (w J) (gm_r G p)) {m i j i' j' : Nat} (h : tr_C G w p I J m i j) (h' : tr_C G w p I J m i' j') : i = i' ∧ j = j' := by
  have e : i = i' := ll_sp hG hv f m i i' (Nat.le_of_lt h.1) h.2.1 (tr_C0 h) h'.2.1 (tr_C0 h')
  subst e
  exact ⟨rfl, ll_sy hG hv h.1 h.2.2.1 h.2.2.2 h'.2.2.1 h'.2.2.2 f⟩
theorem tr_Cu {G : gm_G} (hG : gm_gd G) {w : Nat → Nat} {p I J : Nat} (hv : gm_v G p) (f : gm_W G (w J) (gm_r G p)) {m i j m' i' j' x : Nat} (h : tr_C G w p I J m i j) (h' : tr_C G w p I J m' i' j') (h1 : i ≤ x) (h2 : x < j) (h3 : i' ≤ x) (h4 : x < j') : m = m' ∧ i = i' ∧ j = j' := by
  rcases Nat.lt_trichotomy m m' with l | l | l
  · have := tr_Cm hG hv f h h' l; omega
  · subst l
    exact ⟨rfl, tr_Cs hG hv f h h'⟩
  · have := tr_Cm hG hv f h' h l; omega
/-! the derivation tree of a sentence: the nodes of each level -/
def tr_N (G : gm_G) (w : Nat → Nat) (len : Nat) : Nat → Nat → Nat → Nat → Prop
  | 0, p, i, j => p = 14 ∧ i = 0 ∧ j = len ∧ dr_S G w 14 1 0 0 len
  | k + 1, p, i, j => ∃ P I J m, tr_N G w len k P I J ∧ tr_C G w P I J m i j ∧ gm_s G P m = 10 + gm_r G p ∧ p < gm_n G ∧ dr_S G w p (gm_l G p) 0 i j
theorem tr_b {G : gm_G} (hG : gm_gd G) {w : Nat → Nat} {len : Nat} (hw : w len = 10) : ∀ k p i j, tr_N G w len k p i j → gm_v G p ∧ dr_S G w p (gm_l G p) 0 i j ∧ gm_W G (w j) (gm_r G p) ∧ i ≤ j ∧ j ≤ len
  | 0, p, i, j, ⟨a, b, c, d⟩ => by
    subst a b c
    refine ⟨Or.inr rfl, by rw [hG.1.2.2.2.1]; exact d, ?_, by omega, Nat.le_refl _⟩
    rw [hw, hG.1.2.2.1]
    exact gm_We.mpr ⟨by omega, by omega, Or.inl ⟨rfl, rfl⟩⟩
  | k + 1, p, i, j, ⟨P, I, J, m, a, b, c, d, e⟩ => by
    obtain ⟨a1, a2, a3, a4, a5⟩ := tr_b hG hw k P I J a
    have l := tr_Cle b
    exact ⟨Or.inl d, e, ll_F hG.1 a1 b.1 c b.2.2.2 a3, by omega, by omega⟩
theorem tr_lu {G : gm_G} (hG : gm_gd G) {w : Nat → Nat} {len : Nat} (hw : w len = 10) : ∀ k p i j p' i' j' x, tr_N G w len k p i j → tr_N G w len k p' i' j' → i ≤ x → x < j → i' ≤ x → x < j' → p = p' ∧ i = i' ∧ j = j'
  | 0, _, _, _, _, _, _, _, ⟨a, b, c, _⟩, ⟨a', b', c', _⟩, _, _, _, _ => by omega
  | k + 1, p, i, j, p', i', j', x, ⟨P, I, J, m, a, b, c, d, e⟩, ⟨P', I', J', m', a', b', c', d', e'⟩, h1, h2, h3, h4 => by
    have l := tr_Cle b
    have l' := tr_Cle b'
    obtain ⟨q1, q2, q3⟩ := tr_lu hG hw k P I J P' I' J' x a a' (by omega) (by omega) (by omega) (by omega)
    subst q1 q2 q3
    obtain ⟨v, _, f, _, _⟩ := tr_b hG hw k _ _ _ a
    obtain ⟨q1, q2, q3⟩ := tr_Cu hG v f b b' h1 h2 h3 h4
    subst q1 q2 q3
    have hr : gm_r G p = gm_r G p' := by omega
    have f2 := ll_F hG.1 v b.1 c b.2.2.2 f
    have P1 := ll_P hG.1 e f2
    have P2 := ll_P hG.1 e' (by rw [← hr]; exact f2)
    exact ⟨ll_un hG d d' hr P1.2 P1.1 P2.1, rfl, rfl⟩
theorem tr_anc {G : gm_G} {w : Nat → Nat} {len k : Nat} : ∀ d p i j, tr_N G w len (k + d + 1) p i j → ∃ P I J m a b, tr_N G w len k P I J ∧ tr_C G w P I J m a b ∧ 10 ≤ gm_s G P m ∧ a ≤ i ∧ j ≤ b
  | 0, p, i, j, ⟨P, I, J, m, a, b, c, d, e⟩ => ⟨P, I, J, m, i, j, a, b, by omega, Nat.le_refl _, Nat.le_refl _⟩
  | d + 1, p, i, j, ⟨P, I, J, m, a, b, c, e, f⟩ => by
    obtain ⟨P', I', J', m', a', b', q1, q2, q3, q4, q5⟩ := tr_anc d P I J a
    have l := tr_Cle b
    exact ⟨P', I', J', m', a', b', q1, q2, q3, by omega, by omega⟩
/-- a node of level k over x, a node of a deeper level over x: the second lies in a rule symbol of the first -/
theorem tr_dp {G : gm_G} (hG : gm_gd G) {w : Nat → Nat} {len : Nat} (hw : w len = 10) {k k' p i j p' i' j' x : Nat} (hk : k < k') (h : tr_N G w len k p i j) (h' : tr_N G w len k' p' i' j') (h1 : i ≤ x) (h2 : x < j) (h3 : i' ≤ x) (h4 : x < j') : ∃ m a b, tr_C G w p i j m a b ∧ 10 ≤ gm_s G p m ∧ a ≤ i' ∧ j' ≤ b := by
  obtain ⟨d, rfl⟩ : ∃ d, k' = k + d + 1 := ⟨k' - k - 1, by omega⟩
  obtain ⟨P, I, J, m, a, b, q1, q2, q3, q4, q5⟩ := tr_anc d p' i' j' h'
  have l := tr_Cle q2
  obtain ⟨e1, e2, e3⟩ := tr_lu hG hw k p i j P I J x h q1 h1 h2 (by omega) (by omega)
  subst e1 e2 e3
  exact ⟨m, a, b, q2, q3, q4, q5⟩
theorem tr_nest {G : gm_G} (hG : gm_gd G) {w : Nat → Nat} {len : Nat} (hw : w len = 10) {k k' p i j p' i' j' x : Nat} (hk : k ≤ k') (h : tr_N G w len k p i j) (h' : tr_N G w len k' p' i' j') (h1 : i ≤ x) (h2 : x < j) (h3 : i' ≤ x) (h4 : x < j') : i ≤ i' ∧ j' ≤ j := by
  rcases Nat.lt_or_ge k k' with l | l
  · obtain ⟨m, a, b, q, _, q1, q2⟩ := tr_dp hG hw l h h' h1 h2 h3 h4
    have := tr_Cle q
    omega
  · have e : k = k' := by omega
    subst e
    obtain ⟨_, e2, e3⟩ := tr_lu hG hw k p i j p' i' j' x h h' h1 h2 h3 h4
    omega
/-- the leaf over x: terminal m of a node of level k -/
def tr_f (G : gm_G) (w : Nat → Nat) (len k x p m : Nat) : Prop := ∃ i j, tr_N G w len k p i j ∧ tr_C G w p i j m x (x + 1) ∧ gm_s G p m < 10
theorem tr_fd {G : gm_G} (hG : gm_gd G) {w : Nat → Nat} {len : Nat} (hw : w len = 10) {k k' x p m p' i' j' : Nat} (h : tr_f G w len k x p m) (h' : tr_N G w len k' p' i' j') (h3 : i' ≤ x) (h4 : x < j') : k' ≤ k := by
  obtain ⟨i, j, a, b, c⟩ := h
  rcases Nat.lt_or_ge k k' with l | l
  · have z := tr_Cle b
    obtain ⟨m', a', b', q, q1, q2, q3⟩ := tr_dp hG hw (x := x) l a h' (by omega) (by omega) h3 h4
    obtain ⟨v, _, f, _, _⟩ := tr_b hG hw k _ _ _ a
    obtain ⟨e, _, _⟩ := tr_Cu hG v f (x := x) b q (by omega) (by omega) (by omega) (by omega)
    subst e
    omega
  · exact l
theorem tr_fu {G : gm_G} (hG : gm_gd G) {w : Nat → Nat} {len : Nat} (hw : w len = 10) {k k' x p m p' m' : Nat} (h : tr_f G w len k x p m) (h' : tr_f G w len k' x p' m') : k = k' ∧ p = p' ∧ m = m' := by
  have h0 := h
  have h0' := h'
  obtain ⟨i, j, a, b, c⟩ := h
  obtain ⟨i', j', a', b', c'⟩ := h'
  have z := tr_Cle b
  have z' := tr_Cle b'
  have k1 := tr_fd hG hw h0 a' (by omega) (by omega)
  have k2 := tr_fd hG hw h0' a (by omega) (by omega)
  have e : k = k' := by omega
  subst e
  obtain ⟨e1, e2, e3⟩ := tr_lu hG hw k p i j p' i' j' x a a' (by omega) (by omega) (by omega) (by omega)
  subst e1 e2 e3
  obtain ⟨v, _, f, _, _⟩ := tr_b hG hw k _ _ _ a
  exact ⟨rfl, rfl, (tr_Cu hG v f (x := x) b b' (by omega) (by omega) (by omega) (by omega)).1⟩
/-! scopes -/
def sc_S (G : gm_G) (w : Nat → Nat) (len i j : Nat) : Prop := i < j ∧ ∃ k p, tr_N G w len k p i j ∧ gm_k G p = 1
def sc_in (G : gm_G) (w : Nat → Nat) (len x i j : Nat) : Prop := sc_S G w len i j ∧ i ≤ x ∧ x < j
theorem sc_nest {G : gm_G} (hG : gm_gd G) {w : Nat → Nat} {len : Nat} (hw : w len = 10) {x i j i' j' : Nat} (h : sc_in G w len x i j) (h' : sc_in G w len x i' j') : (i ≤ i' ∧ j' ≤ j) ∨ (i' ≤ i ∧ j ≤ j') := by
  obtain ⟨⟨_, k, p, a, _⟩, b, c⟩ := h
  obtain ⟨⟨_, k', p', a', _⟩, b', c'⟩ := h'
  rcases Nat.le_total k k' with l | l
  · exact Or.inl (tr_nest hG hw l a a' b c b' c')
  · exact Or.inr (tr_nest hG hw l a' a b' c' b c)
def sc_m (G : gm_G) (w : Nat → Nat) (len x i j : Nat) : Prop := sc_in G w len x i j ∧ ∀ i' j', sc_in G w len x i' j' → i' ≤ i ∧ j ≤ j'
theorem sc_len {G : gm_G} (hG : gm_gd G) {w : Nat → Nat} {len : Nat} (hw : w len = 10) {i j : Nat} (h : sc_S G w len i j) : i < j ∧ j ≤ len := by
  obtain ⟨a, k, p, b, _⟩ := h
  exact ⟨a, (tr_b hG hw k p i j b).2.2.2.2⟩
/-! the levels of derivations are few -/
theorem dr_lim {G : gm_G} {w : Nat → Nat} (hG : gm_ok G) : ∀ d n i j, j - i < d → dr_D G w n i j → dr_L G w (6 * (j - i + 1)) n i j := by
  intro d
  induction d with
  | zero => intro n i j h; omega
  | succ d ih =>
    intro n i j hd h
    have hF : ∃ F : (Nat → Prop) → Nat → Prop, F = fun P n => n < 6 ∧ ∃ p, p < gm_n G ∧ gm_r G p = n ∧ dr_sg G (fun n' i' j' => i' ≤ j' ∧ ((j' - i' < j - i ∧ dr_D G w n' i' j') ∨ (i' = i ∧ j' = j ∧ P n'))) w p (gm_l G p) 0 i j := ⟨_, rfl⟩
    obtain ⟨F, hF⟩ := hF
    have mono : fx_M F := by
      subst hF
      intro P Q hPQ a ⟨h1, p, h2, h3, h4⟩
      exact ⟨h1, p, h2, h3, dr_sg_m1 (fun n' i' j' z => ⟨z.1, z.2.elim Or.inl (fun q => Or.inr ⟨q.1, q.2.1, hPQ _ q.2.2⟩)⟩) h4⟩
    have bnd : ∀ P a, F P a → a < 6 := by
      subst hF
      intro P a h
      exact h.1
    have up : ∀ k n, dr_L G w k n i j → fx_L F k n := by
      intro k
      induction k with
      | zero => intro n h; exact h.elim
      | succ k ik =>
        intro n ⟨p, h2, h3, h4⟩
        show F (fx_L F k) n
        rw [hF]
        refine ⟨by rw [← h3]; exact (hG.2.1 p h2).1, p, h2, h3, ?_⟩
        refine dr_sg_mo (lo := i) (hi := j) (dr_L_le k) (fun n' i' j' l1 l2 z => ?_) (fun _ _ _ => rfl) _ _ i j (Nat.le_refl _) (Nat.le_refl _) h4
        have l3 := dr_L_le k _ _ _ z
        rcases Nat.lt_or_ge (j' - i') (j - i) with q | q
        · exact ⟨l3, Or.inl ⟨q, k, z⟩⟩
        · have e1 : i' = i := by omega
          have e2 : j' = j := by omega
          subst e1 e2
          exact ⟨l3, Or.inr ⟨rfl, rfl, hF ▸ ik n' z⟩⟩
    have dn : ∀ k n, fx_L F k n → dr_L G w (6 * (j - i) + k) n i j := by
      intro k
      induction k with
      | zero => intro n h; exact h.elim
      | succ k ik =>
        intro n h
        have h : F (fx_L F k) n := h
        rw [hF] at h
        obtain ⟨_, p, h2, h3, h4⟩ := h
        refine ⟨p, h2, h3, dr_sg_m1 (fun n' i' j' z => ?_) h4⟩
        rcases z with ⟨z0, ⟨z1, z2⟩ | ⟨rfl, rfl, z3⟩⟩
        · exact dr_L_lv (k' := 6 * (j - i) + k) (by omega) (ih n' i' j' (by omega) z2)
        · exact ik n' (by rw [hF]; exact z3)
    obtain ⟨k, h⟩ := h
    have z := dn 6 n (fx_N mono 6 bnd ⟨k, up k n h⟩)
    exact dr_L_lv (by omega) z
