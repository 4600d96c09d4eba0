/-! the grammar, least sets by levels, derivations over spans of an infinite word -/
abbrev gm_G : Type := Nat × (Nat → Nat) × (Nat → Nat) × (Nat → Nat → Nat) × (Nat → Nat → Nat) × (Nat → Nat)
def gm_n (G : gm_G) : Nat := G.1
def gm_r (G : gm_G) (p : Nat) : Nat := G.2.1 p
def gm_l (G : gm_G) (p : Nat) : Nat := G.2.2.1 p
def gm_s (G : gm_G) (p m : Nat) : Nat := G.2.2.2.1 p m
def gm_o (G : gm_G) (p m : Nat) : Nat := G.2.2.2.2.1 p m
def gm_k (G : gm_G) (p : Nat) : Nat := G.2.2.2.2.2 p
def gm_v (G : gm_G) (p : Nat) : Prop := p < gm_n G ∨ p = 14
def gm_ok (G : gm_G) : Prop := gm_n G ≤ 14 ∧ (∀ p, p < gm_n G → gm_r G p < 6 ∧ gm_l G p ≤ 4 ∧ gm_k G p ≤ 1 ∧ ∀ m, m < gm_l G p → gm_s G p m < 16 ∧ (gm_s G p m < 10 → gm_o G p m < 4)) ∧ gm_r G 14 = 0 ∧ gm_l G 14 = 1 ∧ gm_s G 14 0 = 10 ∧ gm_k G 14 = 0
def fx_L (F : (Nat → Prop) → Nat → Prop) : Nat → Nat → Prop
  | 0 => fun _ => False
  | k + 1 => F (fx_L F k)
def fx_S (F : (Nat → Prop) → Nat → Prop) (a : Nat) : Prop := ∃ k, fx_L F k a
def fx_M (F : (Nat → Prop) → Nat → Prop) : Prop := ∀ P Q : Nat → Prop, (∀ a, P a → Q a) → ∀ a, F P a → F Q a
theorem fx_up {F : (Nat → Prop) → Nat → Prop} (h : fx_M F) : ∀ k a, fx_L F k a → fx_L F (k + 1) a
  | 0, _, z => z.elim
  | k + 1, a, z => h _ _ (fx_up h k) a z
theorem fx_le {F : (Nat → Prop) → Nat → Prop} (h : fx_M F) {k k' : Nat} (hk : k ≤ k') {a : Nat} (z : fx_L F k a) : fx_L F k' a := by
  induction hk with
  | refl => exact z
  | step _ ih => exact fx_up h _ _ ih
theorem fx_fz {F : (Nat → Prop) → Nat → Prop} (h : fx_M F) {j : Nat} (hj : ∀ a, fx_L F (j + 1) a → fx_L F j a) : ∀ k a, fx_L F (j + k) a → fx_L F j a
  | 0, _, z => z
  | k + 1, a, z => hj a (h _ _ (fx_fz h hj k) a z)
theorem fx_cnt {F : (Nat → Prop) → Nat → Prop} (h : fx_M F) (N : Nat) (hb : ∀ P a, F P a → a < N) (k : Nat) (hk : ∀ j, j < k → ¬ ∀ a, fx_L F (j + 1) a → fx_L F j a) : k ≤ cn (fx_L F k) N := by
  induction k with
  | zero => exact Nat.zero_le _
  | succ k ih =>
    have a := ih (fun j hj => hk j (by omega))
    have b := hk k (by omega)
    obtain ⟨x, hx⟩ := Classical.not_forall.mp b
    have hx1 : fx_L F (k + 1) x := Classical.byContradiction (fun z => hx (fun y => absurd y z))
    have hx2 : ¬ fx_L F k x := fun z => hx (fun _ => z)
    have c := cn_lt (N := N) hx2 hx1 (fun q _ => fx_up h k q) (hb _ _ hx1)
    omega
theorem fx_N {F : (Nat → Prop) → Nat → Prop} (h : fx_M F) (N : Nat) (hb : ∀ P a, F P a → a < N) {a : Nat} (z : fx_S F a) : fx_L F N a := by
  obtain ⟨k, z⟩ := z
  rcases Classical.em (∃ j, j ≤ N ∧ ∀ a, fx_L F (j + 1) a → fx_L F j a) with ⟨j, hj, hs⟩ | hn
  · rcases Nat.lt_or_ge k j with c | c
    · exact fx_le h (by omega) z
    · obtain ⟨d, rfl⟩ : ∃ d, k = j + d := ⟨k - j, by omega⟩
      exact fx_le h hj (fx_fz h hs d a z)
  · have c := fx_cnt h N hb (N + 1) (fun j hj q => hn ⟨j, by omega, q⟩)
    have d := cn_le (fx_L F (N + 1)) N
    omega
theorem fx_eq {F : (Nat → Prop) → Nat → Prop} (h : fx_M F) (N : Nat) (hb : ∀ P a, F P a → a < N) (a : Nat) : fx_S F a ↔ F (fx_S F) a :=
  ⟨fun z => h (fx_L F N) _ (fun b q => ⟨N, q⟩) a (fx_up h _ _ (fx_N h N hb z)), fun z => ⟨N + 1, h _ (fx_L F N) (fun b q => fx_N h N hb q) a z⟩⟩
def gm_pn (G : gm_G) (E : Nat → Prop) (p m m' : Nat) : Prop := ∀ k, m ≤ k → k < m' → 10 ≤ gm_s G p k ∧ E (gm_s G p k - 10)
def gm_fs (G : gm_G) (E P : Nat → Prop) (t p m : Nat) : Prop := ∃ m', m ≤ m' ∧ m' < gm_l G p ∧ gm_pn G E p m m' ∧ (gm_s G p m' = t ∨ 10 ≤ gm_s G p m' ∧ P (gm_s G p m' - 10))
theorem gm_pn_mo {G : gm_G} {E E' : Nat → Prop} (h : ∀ a, E a → E' a) {p m m' : Nat} (z : gm_pn G E p m m') : gm_pn G E' p m m' := fun k a b => ⟨(z k a b).1, h _ (z k a b).2⟩
theorem gm_fs_mo {G : gm_G} {E E' P P' : Nat → Prop} (h : ∀ a, E a → E' a) (h' : ∀ a, P a → P' a) {t p m : Nat} (z : gm_fs G E P t p m) : gm_fs G E' P' t p m := by
  obtain ⟨m', a, b, c, d⟩ := z
  exact ⟨m', a, b, gm_pn_mo h c, d.elim Or.inl (fun e => Or.inr ⟨e.1, h' _ e.2⟩)⟩
def gm_uF (G : gm_G) (P : Nat → Prop) (n : Nat) : Prop := n < 6 ∧ ∃ p, p < gm_n G ∧ gm_r G p = n ∧ gm_pn G P p 0 (gm_l G p)
def gm_U (G : gm_G) : Nat → Prop := fx_S (gm_uF G)
def gm_mF (G : gm_G) (P : Nat → Prop) (n : Nat) : Prop := n < 6 ∧ ∃ p, p < gm_n G ∧ gm_r G p = n ∧ ∀ m, m < gm_l G p → 10 ≤ gm_s G p m → P (gm_s G p m - 10)
def gm_M (G : gm_G) : Nat → Prop := fx_S (gm_mF G)
def gm_fF (G : gm_G) (t : Nat) (P : Nat → Prop) (n : Nat) : Prop := n < 6 ∧ t < 10 ∧ ∃ p, p < gm_n G ∧ gm_r G p = n ∧ gm_fs G (gm_U G) P t p 0
def gm_F (G : gm_G) (t : Nat) : Nat → Prop := fx_S (gm_fF G t)
def gm_fq (G : gm_G) (t p m : Nat) : Prop := t < 10 ∧ gm_fs G (gm_U G) (gm_F G t) t p m
def gm_uq (G : gm_G) (p m : Nat) : Prop := gm_pn G (gm_U G) p m (gm_l G p)
def gm_wF (G : gm_G) (t : Nat) (P : Nat → Prop) (n : Nat) : Prop := n < 6 ∧ t ≤ 10 ∧ (n = 0 ∧ t = 10 ∨ ∃ p m, p < gm_n G ∧ m < gm_l G p ∧ gm_s G p m = 10 + n ∧ (gm_fq G t p (m + 1) ∨ gm_uq G p (m + 1) ∧ P (gm_r G p)))
def gm_W (G : gm_G) (t : Nat) : Nat → Prop := fx_S (gm_wF G t)
def gm_P (G : gm_G) (t p : Nat) : Prop := gm_fq G t p 0 ∨ gm_uq G p 0 ∧ gm_W G t (gm_r G p)
def gm_us (G : gm_G) (n : Nat) : Prop := n = 0 ∨ ∃ p, p < gm_n G ∧ (gm_r G p = n ∨ ∃ m, m < gm_l G p ∧ gm_s G p m = 10 + n)
def gm_gd (G : gm_G) : Prop := gm_ok G ∧ (∀ n, n < 6 → gm_us G n → gm_M G n) ∧ ∀ q p t, q < gm_n G → p < q → gm_r G p = gm_r G q → t ≤ 10 → gm_P G t p → gm_P G t q → False
theorem gm_uM (G : gm_G) : fx_M (gm_uF G) := fun _ _ h _ ⟨a, p, b, c, d⟩ => ⟨a, p, b, c, gm_pn_mo h d⟩
theorem gm_mM (G : gm_G) : fx_M (gm_mF G) := fun _ _ h _ ⟨a, p, b, c, d⟩ => ⟨a, p, b, c, fun m x y => h _ (d m x y)⟩
theorem gm_fM (G : gm_G) (t : Nat) : fx_M (gm_fF G t) := fun _ _ h _ ⟨a, a', p, b, c, d⟩ => ⟨a, a', p, b, c, gm_fs_mo (fun _ x => x) h d⟩
theorem gm_wM (G : gm_G) (t : Nat) : fx_M (gm_wF G t) := fun _ _ h _ ⟨a, a', d⟩ => ⟨a, a', d.elim Or.inl (fun ⟨p, m, x, y, z, q⟩ => Or.inr ⟨p, m, x, y, z, q.elim Or.inl (fun r => Or.inr ⟨r.1, h _ r.2⟩)⟩)⟩
theorem gm_Ue {G : gm_G} {n : Nat} : gm_U G n ↔ gm_uF G (gm_U G) n := fx_eq (gm_uM G) 6 (fun _ _ h => h.1) n
theorem gm_Me {G : gm_G} {n : Nat} : gm_M G n ↔ gm_mF G (gm_M G) n := fx_eq (gm_mM G) 6 (fun _ _ h => h.1) n
theorem gm_Fe {G : gm_G} {t n : Nat} : gm_F G t n ↔ gm_fF G t (gm_F G t) n := fx_eq (gm_fM G t) 6 (fun _ _ h => h.1) n
theorem gm_We {G : gm_G} {t n : Nat} : gm_W G t n ↔ gm_wF G t (gm_W G t) n := fx_eq (gm_wM G t) 6 (fun _ _ h => h.1) n
theorem gm_U6 {G : gm_G} {n : Nat} (h : gm_U G n) : fx_L (gm_uF G) 6 n := fx_N (gm_uM G) 6 (fun _ _ h => h.1) h
theorem gm_M6 {G : gm_G} {n : Nat} (h : gm_M G n) : fx_L (gm_mF G) 6 n := fx_N (gm_mM G) 6 (fun _ _ h => h.1) h
theorem gm_F6 {G : gm_G} {t n : Nat} (h : gm_F G t n) : fx_L (gm_fF G t) 6 n := fx_N (gm_fM G t) 6 (fun _ _ h => h.1) h
theorem gm_W6 {G : gm_G} {t n : Nat} (h : gm_W G t n) : fx_L (gm_wF G t) 6 n := fx_N (gm_wM G t) 6 (fun _ _ h => h.1) h
/-! derivations -/
def dr_sy (R : Nat → Nat → Nat → Prop) (w : Nat → Nat) (s i j : Nat) : Prop := (s < 10 ∧ w i = s ∧ j = i + 1) ∨ (10 ≤ s ∧ R (s - 10) i j)
def dr_sg (G : gm_G) (R : Nat → Nat → Nat → Prop) (w : Nat → Nat) (p : Nat) : Nat → Nat → Nat → Nat → Prop
  | 0, _, i, j => i = j
  | c + 1, m, i, j => ∃ k, dr_sy R w (gm_s G p m) i k ∧ dr_sg G R w p c (m + 1) k j
def dr_L (G : gm_G) (w : Nat → Nat) : Nat → Nat → Nat → Nat → Prop
  | 0, _, _, _ => False
  | k + 1, n, i, j => ∃ p, p < gm_n G ∧ gm_r G p = n ∧ dr_sg G (dr_L G w k) w p (gm_l G p) 0 i j
def dr_D (G : gm_G) (w : Nat → Nat) (n i j : Nat) : Prop := ∃ k, dr_L G w k n i j
def dr_S (G : gm_G) (w : Nat → Nat) (p c m i j : Nat) : Prop := dr_sg G (dr_D G w) w p c m i j
theorem dr_sy_le {R : Nat → Nat → Nat → Prop} {w : Nat → Nat} {s i j : Nat} (hle : ∀ n i j, R n i j → i ≤ j) (h : dr_sy R w s i j) : i ≤ j := by
  rcases h with ⟨_, _, rfl⟩ | ⟨_, h⟩
  · omega
  · exact hle _ _ _ h
theorem dr_sg_le {G : gm_G} {R : Nat → Nat → Nat → Prop} {w : Nat → Nat} {p : Nat} (hle : ∀ n i j, R n i j → i ≤ j) : ∀ c m i j, dr_sg G R w p c m i j → i ≤ j
  | 0, _, _, _, h => Nat.le_of_eq h
  | c + 1, m, i, j, ⟨_, a, b⟩ => Nat.le_trans (dr_sy_le hle a) (dr_sg_le hle c (m + 1) _ j b)
theorem dr_sg_mo {G : gm_G} {R R' : Nat → Nat → Nat → Prop} {w w' : Nat → Nat} {p lo hi : Nat} (hle : ∀ n i j, R n i j → i ≤ j) (hR : ∀ n i j, lo ≤ i → j ≤ hi → R n i j → R' n i j) (hw : ∀ x, lo ≤ x → x < hi → w x = w' x) : ∀ c m i j, lo ≤ i → j ≤ hi → dr_sg G R w p c m i j → dr_sg G R' w' p c m i j := by
  intro c
  induction c with
  | zero => intro m i j _ _ h; exact h
  | succ c ih =>
    intro m i j h1 h2 h
    obtain ⟨k, a, b⟩ := h
    have l1 := dr_sy_le hle a
    have l2 := dr_sg_le hle _ _ _ _ b
    refine ⟨k, ?_, ih _ _ _ (by omega) h2 b⟩
    rcases a with ⟨x, y, z⟩ | ⟨x, y⟩
    · exact Or.inl ⟨x, by rw [← hw i h1 (by omega)]; exact y, z⟩
    · exact Or.inr ⟨x, hR _ _ _ h1 (by omega) y⟩
theorem dr_L_le {G : gm_G} {w : Nat → Nat} : ∀ k n i j, dr_L G w k n i j → i ≤ j
  | 0, _, _, _, h => h.elim
  | k + 1, _, i, j, ⟨_, _, _, h⟩ => dr_sg_le (dr_L_le k) _ _ i j h
theorem dr_D_le {G : gm_G} {w : Nat → Nat} : ∀ n i j, dr_D G w n i j → i ≤ j := fun _ _ _ ⟨k, h⟩ => dr_L_le k _ _ _ h
theorem dr_S_le {G : gm_G} {w : Nat → Nat} {p c m i j : Nat} (h : dr_S G w p c m i j) : i ≤ j := dr_sg_le dr_D_le _ _ _ _ h
theorem dr_L_up {G : gm_G} {w : Nat → Nat} : ∀ k n i j, dr_L G w k n i j → dr_L G w (k + 1) n i j
  | 0, _, _, _, h => h.elim
  | k + 1, _, i, j, ⟨p, a, b, h⟩ => ⟨p, a, b, dr_sg_mo (lo := 0) (hi := j) (dr_L_le k) (fun n i j _ _ => dr_L_up k n i j) (fun _ _ _ => rfl) _ _ i j (Nat.zero_le _) (Nat.le_refl _) h⟩
theorem dr_L_lv {G : gm_G} {w : Nat → Nat} {k k' n i j : Nat} (hk : k ≤ k') (h : dr_L G w k n i j) : dr_L G w k' n i j := by
  induction hk with
  | refl => exact h
  | step _ ih => exact dr_L_up _ _ _ _ ih
theorem dr_L_w {G : gm_G} {w w' : Nat → Nat} : ∀ k n i j, (∀ x, i ≤ x → x < j → w x = w' x) → dr_L G w k n i j → dr_L G w' k n i j
  | 0, _, _, _, _, h => h.elim
  | k + 1, _, i, j, hw, ⟨p, a, b, h⟩ => ⟨p, a, b, dr_sg_mo (lo := i) (hi := j) (dr_L_le k) (fun n i' j' l1 l2 => dr_L_w k n i' j' (fun x x1 x2 => hw x (by omega) (by omega))) hw _ _ i j (Nat.le_refl _) (Nat.le_refl _) h⟩
theorem dr_D_w {G : gm_G} {w w' : Nat → Nat} {n i j : Nat} (hw : ∀ x, i ≤ x → x < j → w x = w' x) : dr_D G w n i j → dr_D G w' n i j := fun ⟨k, h⟩ => ⟨k, dr_L_w k n i j hw h⟩
theorem dr_S_w {G : gm_G} {w w' : Nat → Nat} {p c m i j : Nat} (hw : ∀ x, i ≤ x → x < j → w x = w' x) (h : dr_S G w p c m i j) : dr_S G w' p c m i j :=
  dr_sg_mo (lo := i) (hi := j) dr_D_le (fun n i' j' l1 l2 => dr_D_w (fun x x1 x2 => hw x (by omega) (by omega))) hw _ _ i j (Nat.le_refl _) (Nat.le_refl _) h
theorem dr_sg_m1 {G : gm_G} {R R' : Nat → Nat → Nat → Prop} {w : Nat → Nat} {p c m i j : Nat} (hR : ∀ n i j, R n i j → R' n i j) (h : dr_sg G R w p c m i j) : dr_sg G R' w p c m i j := by
  induction c generalizing m i with
  | zero => exact h
  | succ c ih =>
    obtain ⟨k, a, b⟩ := h
    exact ⟨k, a.elim Or.inl (fun q => Or.inr ⟨q.1, hR _ _ _ q.2⟩), ih b⟩
theorem dr_S_lv {G : gm_G} {w : Nat → Nat} {p : Nat} : ∀ c m i j, dr_S G w p c m i j → ∃ k, dr_sg G (dr_L G w k) w p c m i j
  | 0, _, _, _, h => ⟨0, h⟩
  | c + 1, m, i, j, ⟨k, a, b⟩ => by
    obtain ⟨q, hq⟩ := dr_S_lv c (m + 1) k j b
    rcases a with a | ⟨a, q', hq'⟩
    · exact ⟨q, k, Or.inl a, hq⟩
    · exact ⟨q + q', k, Or.inr ⟨a, dr_L_lv (by omega) hq'⟩, dr_sg_m1 (fun _ _ _ => dr_L_lv (by omega)) hq⟩
theorem dr_D_of {G : gm_G} {w : Nat → Nat} {p i j : Nat} (hp : p < gm_n G) (h : dr_S G w p (gm_l G p) 0 i j) : dr_D G w (gm_r G p) i j := by
  obtain ⟨k, h⟩ := dr_S_lv _ _ _ _ h
  exact ⟨k + 1, p, hp, rfl, h⟩
theorem dr_D_to {G : gm_G} {w : Nat → Nat} {n i j : Nat} (h : dr_D G w n i j) : ∃ p, p < gm_n G ∧ gm_r G p = n ∧ dr_S G w p (gm_l G p) 0 i j := by
  obtain ⟨k, h⟩ := h
  cases k with
  | zero => exact h.elim
  | succ k =>
    obtain ⟨p, a, b, h⟩ := h
    exact ⟨p, a, b, dr_sg_m1 (fun _ _ _ z => ⟨k, z⟩) h⟩
theorem dr_app {G : gm_G} {R : Nat → Nat → Nat → Prop} {w : Nat → Nat} {p c2 k j : Nat} : ∀ c1 m i, dr_sg G R w p c1 m i k → dr_sg G R w p c2 (m + c1) k j → dr_sg G R w p (c1 + c2) m i j := by
  intro c1
  induction c1 with
  | zero => intro m i a b; cases a; rw [Nat.zero_add]; exact b
  | succ c1 ih =>
    intro m i a b
    obtain ⟨q, a, a'⟩ := a
    rw [show c1 + 1 + c2 = (c1 + c2) + 1 from by omega]
    exact ⟨q, a, ih _ _ a' (by rw [show m + 1 + c1 = m + (c1 + 1) from by omega]; exact b)⟩
theorem dr_spl {G : gm_G} {R : Nat → Nat → Nat → Prop} {w : Nat → Nat} {p c2 j : Nat} : ∀ c1 m i, dr_sg G R w p (c1 + c2) m i j → ∃ k, dr_sg G R w p c1 m i k ∧ dr_sg G R w p c2 (m + c1) k j := by
  intro c1
  induction c1 with
  | zero => intro m i h; rw [Nat.zero_add] at h; exact ⟨i, rfl, h⟩
  | succ c1 ih =>
    intro m i h
    rw [show c1 + 1 + c2 = (c1 + c2) + 1 from by omega] at h
    obtain ⟨q, a, b⟩ := h
    obtain ⟨k, x, y⟩ := ih _ _ b
    exact ⟨k, ⟨q, a, x⟩, by rw [show m + (c1 + 1) = m + 1 + c1 from by omega]; exact y⟩
theorem dr_1 {G : gm_G} {R : Nat → Nat → Nat → Prop} {w : Nat → Nat} {p m i j : Nat} (h : dr_sy R w (gm_s G p m) i j) : dr_sg G R w p 1 m i j := ⟨j, h, rfl⟩
theorem dr_sn {G : gm_G} {R : Nat → Nat → Nat → Prop} {w : Nat → Nat} {p m i k j : Nat} (a : dr_sg G R w p m 0 i k) (b : dr_sy R w (gm_s G p m) k j) : dr_sg G R w p (m + 1) 0 i j :=
  dr_app m 0 i a (by rw [Nat.zero_add]; exact dr_1 b)
theorem dr_ns {G : gm_G} {R : Nat → Nat → Nat → Prop} {w : Nat → Nat} {p m i j : Nat} (h : dr_sg G R w p (m + 1) 0 i j) : ∃ k, dr_sg G R w p m 0 i k ∧ dr_sy R w (gm_s G p m) k j := by
  obtain ⟨k, a, b⟩ := dr_spl m 0 i h
  rw [Nat.zero_add] at b
  obtain ⟨q, b, c⟩ := b
  cases c
  exact ⟨k, a, b⟩
/-! nullable -/
theorem dr_Us {G : gm_G} {E : Nat → Prop} {R : Nat → Nat → Nat → Prop} {w : Nat → Nat} {p : Nat} (hle : ∀ n i j, R n i j → i ≤ j) (hR : ∀ n i, R n i i → E n) : ∀ c m i, dr_sg G R w p c m i i → gm_pn G E p m (m + c)
  | 0, m, _, _, k, a, b => by omega
  | c + 1, m, i, ⟨q, a, b⟩, k, x, y => by
    have l1 := dr_sy_le hle a
    have l2 := dr_sg_le hle _ _ _ _ b
    have e : q = i := by omega
    subst e
    rcases Nat.lt_or_ge m k with z | z
    · exact dr_Us hle hR c (m + 1) q b k z (by omega)
    · have e : k = m := by omega
      subst e
      rcases a with ⟨_, _, a⟩ | ⟨a, a'⟩
      · omega
      · exact ⟨a, hR _ _ a'⟩
theorem dr_U0 {G : gm_G} (hG : gm_ok G) {w : Nat → Nat} : ∀ k n i, dr_L G w k n i i → fx_L (gm_uF G) k n
  | 0, _, _, h => h.elim
  | k + 1, n, i, ⟨p, a, b, h⟩ => ⟨by rw [← b]; exact (hG.2.1 p a).1, p, a, b, by
      have := dr_Us (dr_L_le k) (fun n i => dr_U0 hG k n i) _ _ _ h
      rw [Nat.zero_add] at this; exact this⟩
theorem dr_U {G : gm_G} (hG : gm_ok G) {w : Nat → Nat} {n i : Nat} (h : dr_D G w n i i) : gm_U G n := by
  obtain ⟨k, h⟩ := h
  exact ⟨k, dr_U0 hG k n i h⟩
theorem dr_uS {G : gm_G} {E : Nat → Prop} {R : Nat → Nat → Nat → Prop} {w : Nat → Nat} {p i : Nat} (hE : ∀ n, E n → R n i i) : ∀ c m, gm_pn G E p m (m + c) → dr_sg G R w p c m i i
  | 0, _, _ => rfl
  | c + 1, m, h => ⟨i, Or.inr ⟨(h m (by omega) (by omega)).1, hE _ (h m (by omega) (by omega)).2⟩, dr_uS hE c (m + 1) (fun k a b => h k (by omega) (by omega))⟩
theorem dr_u0 {G : gm_G} {w : Nat → Nat} {i : Nat} : ∀ k n, fx_L (gm_uF G) k n → dr_L G w k n i i
  | 0, _, h => h.elim
  | k + 1, n, ⟨_, p, a, b, h⟩ => ⟨p, a, b, dr_uS (dr_u0 k) _ 0 (by rw [Nat.zero_add]; exact h)⟩
theorem dr_u {G : gm_G} {w : Nat → Nat} {n : Nat} (i : Nat) (h : gm_U G n) : dr_D G w n i i := by
  obtain ⟨k, h⟩ := h
  exact ⟨k, dr_u0 k n h⟩
theorem dr_uq {G : gm_G} {w : Nat → Nat} {p c m : Nat} (i : Nat) (h : gm_pn G (gm_U G) p m (m + c)) : dr_S G w p c m i i := dr_uS (fun _ z => dr_u i z) c m h
theorem dr_qu {G : gm_G} (hG : gm_ok G) {w : Nat → Nat} {p c m i : Nat} (h : dr_S G w p c m i i) : gm_pn G (gm_U G) p m (m + c) := dr_Us dr_D_le (fun _ _ z => dr_U hG z) _ _ _ h
/-! FIRST -/
theorem dr_Fs {G : gm_G} (hG : gm_ok G) {w : Nat → Nat} {p : Nat} {R : Nat → Nat → Nat → Prop} (hle : ∀ n i j, R n i j → i ≤ j) (hD : ∀ n i j, R n i j → dr_D G w n i j) (hR : ∀ n i j, R n i j → i < j → w i < 10 ∧ gm_F G (w i) n) : ∀ c m i j, m + c = gm_l G p → dr_sg G R w p c m i j → i < j → gm_fq G (w i) p m
  | 0, _, _, _, _, h, l => by have : _ = _ := h; omega
  | c + 1, m, i, j, hm, ⟨k, a, b⟩, l => by
    rcases Nat.lt_or_ge i k with z | z
    · rcases a with ⟨x, y, _⟩ | ⟨x, y⟩
      · exact ⟨by omega, m, Nat.le_refl _, by omega, fun q q1 q2 => by omega, Or.inl y.symm⟩
      · have := hR _ _ _ y z
        exact ⟨this.1, m, Nat.le_refl _, by omega, fun q q1 q2 => by omega, Or.inr ⟨x, this.2⟩⟩
    · have l1 := dr_sy_le hle a
      have e : k = i := by omega
      subst e
      rcases a with ⟨_, _, a⟩ | ⟨x, y⟩
      · omega
      · obtain ⟨t, m', h1, h2, h3, h4⟩ := dr_Fs hG hle hD hR c (m + 1) k j (by omega) b l
        refine ⟨t, m', by omega, h2, fun q q1 q2 => ?_, h4⟩
        rcases Nat.lt_or_ge m q with u | u
        · exact h3 q u q2
        · have e : q = m := by omega
          subst e
          exact ⟨x, dr_U hG (hD _ _ _ y)⟩
theorem dr_F0 {G : gm_G} (hG : gm_ok G) {w : Nat → Nat} : ∀ k n i j, dr_L G w k n i j → i < j → w i < 10 ∧ gm_F G (w i) n
  | 0, _, _, _, h, _ => h.elim
  | k + 1, n, i, j, ⟨p, a, b, h⟩, l => by
    have := dr_Fs hG (dr_L_le k) (fun n i j z => ⟨k, z⟩) (dr_F0 hG k) _ 0 i j (by omega) h l
    exact ⟨this.1, gm_Fe.mpr ⟨by rw [← b]; exact (hG.2.1 p a).1, this.1, p, a, b, this.2⟩⟩
theorem dr_F {G : gm_G} (hG : gm_ok G) {w : Nat → Nat} {n i j : Nat} (h : dr_D G w n i j) (l : i < j) : w i < 10 ∧ gm_F G (w i) n := by
  obtain ⟨k, h⟩ := h
  exact dr_F0 hG k n i j h l
theorem dr_fq {G : gm_G} (hG : gm_ok G) {w : Nat → Nat} {p c m i j : Nat} (hm : m + c = gm_l G p) (h : dr_S G w p c m i j) (l : i < j) : gm_fq G (w i) p m :=
  dr_Fs hG dr_D_le (fun _ _ _ z => z) (fun _ _ _ z => dr_F hG z) c m i j hm h l
