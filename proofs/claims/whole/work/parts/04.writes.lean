theorem pc_us {R : Nat → Nat × Nat × Nat} {j : Nat} {q : Nat × Nat × Nat} : pc_up R j q j = q := if_pos rfl
theorem pc_un {R : Nat → Nat × Nat × Nat} {j k : Nat} {q : Nat × Nat × Nat} (h : k ≠ j) : pc_up R j q k = R k := if_neg h
theorem pc_Bu {R : Nat → Nat × Nat × Nat} {j : Nat} {q : Nat × Nat × Nat} (B : pc_Bd R) (h : q.1 < 80 ∧ q.2.1 < 64 ∧ q.2.2 < 256) : pc_Bd (pc_up R j q) := by
  intro k hk
  by_cases e : k = j
  · subst e; rw [pc_us]; exact h
  · rw [pc_un e]; exact B k hk
theorem pc_Su {R : Nat → Nat × Nat × Nat} {a b d : Nat → Int32} {j : Nat} {q : Nat × Nat × Nat} {x y z : Int32} (S : pc_St R a b d) (h1 : x = nI q.1) (h2 : y = nI q.2.1) (h3 : z = nI q.2.2) : pc_St (pc_up R j q) (upd a j x) (upd b j y) (upd d j z) := by
  intro k hk
  by_cases e : k = j
  · subst e; rw [pc_us, pk_us, pk_us, pk_us]; exact ⟨h1, h2, h3⟩
  · rw [pc_un e, pk_un e, pk_un e, pk_un e]; exact S k hk
/-- m rules from t on, each one place up; then m rules behind i, each one place down -/
def pc_sh (t : Nat) : Nat → (Nat → Nat × Nat × Nat) → Nat → Nat × Nat × Nat
  | 0, R => R
  | m + 1, R => pc_sh t m (pc_up R (t + m + 1) (R (t + m)))
def pc_rm : Nat → Nat → (Nat → Nat × Nat × Nat) → Nat → Nat × Nat × Nat
  | 0, _, R => R
  | m + 1, i, R => pc_rm m (i + 1) (pc_up R i (R (i + 1)))
theorem pc_Bsh (t : Nat) : ∀ (m : Nat) (R : Nat → Nat × Nat × Nat), t + m ≤ 10 → pc_Bd R → pc_Bd (pc_sh t m R) := by
  intro m
  induction m with
  | zero => intro R _ B; exact B
  | succ m ih => intro R h B; exact ih _ (by omega) (pc_Bu B (B (t + m) (by omega)))
theorem pc_Brm : ∀ (m i : Nat) (R : Nat → Nat × Nat × Nat), i + m < 10 → pc_Bd R → pc_Bd (pc_rm m i R) := by
  intro m
  induction m with
  | zero => intro i R _ B; exact B
  | succ m ih => intro i R h B; exact ih _ _ (by omega) (pc_Bu B (B (i + 1) (by omega)))
theorem pc_cpX {post : SX → Prop} {R : Nat → Nat × Nat × Nat} {f x y : Int32} {a b d : Nat → Int32} (i j : Nat) (S : pc_St R a b d) (hi : i < 10) (hj : j < 10) (ex : x = nI i) (ey : y = nI j) (h : ∀ a' b' d', pc_St (pc_up R j (R i)) a' b' d' → post (f, a', b', d')) : wpX_copyRule post (f, a, b, d) x y := by
  subst ex ey
  have vi : vp_in (nI i) 10 := vp_in_nI (by omega) (by decide)
  have vj : vp_in (nI j) 10 := vp_in_nI (by omega) (by decide)
  unfold wpX_copyRule
  dsimp only
  rw [nI_clamp (n := i) (by omega), nI_clamp (n := j) (by omega)]
  obtain ⟨e1, e2, e3⟩ := S i hi
  exact ⟨vi, vj, nm_e ⟨vi, vj, nm_e ⟨vi, vj, nm_e (h _ _ _ (pc_Su S e1 e2 e3))⟩⟩⟩
theorem pc_cpY {post : SY → Prop} {R : Nat → Nat × Nat × Nat} {f x y : Int32} {a b d : Nat → Int32} (i j : Nat) (S : pc_St R a b d) (hi : i < 10) (hj : j < 10) (ex : x = nI i) (ey : y = nI j) (h : ∀ a' b' d', pc_St (pc_up R j (R i)) a' b' d' → post (f, a', b', d')) : wpY_copy post (f, a, b, d) x y := by
  subst ex ey
  have vi : vp_in (nI i) 11 := vp_in_nI (by omega) (by decide)
  have vj : vp_in (nI j) 11 := vp_in_nI (by omega) (by decide)
  unfold wpY_copy
  dsimp only
  rw [nI_clamp (n := i) (by omega), nI_clamp (n := j) (by omega)]
  obtain ⟨e1, e2, e3⟩ := S i hi
  exact ⟨vi, vj, nm_e ⟨vi, vj, nm_e ⟨vi, vj, nm_e (h _ _ _ (pc_Su S e1 e2 e3))⟩⟩⟩
theorem pc_isX {post : Int32 → SX → Prop} {t c p g q : Nat} (hc : c < 10) : ∀ (m : Nat) (R : Nat → Nat × Nat × Nat) (a b d : Nat → Int32), pc_St R a b d → t + m ≤ c → (∀ a' b' d', pc_St (pc_up (pc_sh t m R) t (p, g, q)) a' b' d' → post (nI (c + 1)) (nI (c + 1), a', b', d')) → wX_insert_95 post (nI t) (nI p) (nI g) (nI q) (m + 1) (nI (t + m)) (nI c) a b d := by
  intro m
  induction m with
  | zero =>
    intro R a b d S hm h
    have v : vp_in (nI t) 10 := vp_in_nI (by omega) (by decide)
    have g := h _ _ _ (pc_Su (j := t) S (q := (p, g, q)) rfl rfl rfl)
    refine br_t (nI_le (by omega) (by omega)) ⟨v, nm_e ⟨v, nm_e ⟨v, nm_e (nm_r (nI_1 c) ?_)⟩⟩⟩
    rw [nI_clamp (n := t) (by omega)]
    exact g
  | succ m ih =>
    intro R a b d S hm h
    exact br_f (nI_ge (by omega) (by omega)) (pc_cpX (t + m) (t + m + 1) S (by omega) (by omega) (nI_pred (t + m)) rfl (fun a' b' d' S' => nm_r (pk_m1 (t + m)) (ih _ _ _ _ S' (by omega) h)))
theorem pc_isY {post : Int32 → SY → Prop} {t c p g q : Nat} (hc : c < 10) : ∀ (m : Nat) (R : Nat → Nat × Nat × Nat) (a b d : Nat → Int32), pc_St R a b d → t + m ≤ c → (∀ a' b' d', pc_St (pc_up (pc_sh t m R) t (p, g, q)) a' b' d' → post (nI (c + 1)) (nI (c + 1), a', b', d')) → wY_insert_94 post (nI t) (nI p) (nI g) (nI q) (m + 1) (nI (t + m)) (nI c) a b d := by
  intro m
  induction m with
  | zero =>
    intro R a b d S hm h
    have v : vp_in (nI t) 11 := vp_in_nI (by omega) (by decide)
    have g := h _ _ _ (pc_Su (j := t) S (q := (p, g, q)) rfl rfl rfl)
    refine br_t (nI_le (by omega) (by omega)) ⟨v, nm_e ⟨v, nm_e ⟨v, nm_e (nm_r (nI_1 c) ?_)⟩⟩⟩
    rw [nI_clamp (n := t) (by omega)]
    exact g
  | succ m ih =>
    intro R a b d S hm h
    exact br_f (nI_ge (by omega) (by omega)) (pc_cpY (t + m) (t + m + 1) S (by omega) (by omega) (nI_pred (t + m)) rfl (fun a' b' d' S' => nm_r (pk_m1 (t + m)) (ih _ _ _ _ S' (by omega) h)))
theorem pc_rmX {post : Int32 → SX → Prop} {e : Nat} (he : e < 10) : ∀ (m i : Nat) (R : Nat → Nat × Nat × Nat) (a b d : Nat → Int32), pc_St R a b d → i + m = e → (∀ a' b' d', pc_St (pc_rm m i R) a' b' d' → post (nI e) (nI e, a', b', d')) → wX_remove_13 post (m + 1) (nI i) (nI (e + 1)) a b d := by
  intro m
  induction m with
  | zero =>
    intro i R a b d S hi h
    exact br_t (by rw [nI_pred]; exact nI_le (by omega) (by omega)) (nm_r (nI_pred e) (h _ _ _ S))
  | succ m ih =>
    intro i R a b d S hi h
    exact br_f (by rw [nI_pred]; exact nI_ge (by omega) (by omega)) (pc_cpX (i + 1) i S (by omega) (by omega) (nI_1 i) rfl (fun a' b' d' S' => nm_r (nI_1 i) (ih _ _ _ _ _ S' (by omega) h)))
theorem pc_rmY {post : Int32 → SY → Prop} {e : Nat} (he : e < 10) : ∀ (m i : Nat) (R : Nat → Nat × Nat × Nat) (a b d : Nat → Int32), pc_St R a b d → i + m = e → (∀ a' b' d', pc_St (pc_rm m i R) a' b' d' → post (nI e) (nI e, a', b', d')) → wY_remove_23 post (m + 1) (nI i) (nI e) a b d := by
  intro m
  induction m with
  | zero =>
    intro i R a b d S hi h
    exact br_t (nI_le (by omega) (by omega)) (h _ _ _ S)
  | succ m ih =>
    intro i R a b d S hi h
    exact br_f (nI_ge (by omega) (by omega)) (pc_cpY (i + 1) i S (by omega) (by omega) (nI_1 i) rfl (fun a' b' d' S' => nm_r (nI_1 i) (ih _ _ _ _ _ S' (by omega) h)))
theorem pc_cqY {post : SY → Prop} {f x y : Int32} {a b d : Nat → Int32} (i j : Nat) (hi : i < 11) (hj : j < 11) (ex : x = nI i) (ey : y = nI j) (h : post (f, upd a j (a i), upd b j (b i), upd d j (d i))) : wpY_copy post (f, a, b, d) x y := by
  subst ex ey
  have vi : vp_in (nI i) 11 := vp_in_nI (by omega) (by decide)
  have vj : vp_in (nI j) 11 := vp_in_nI (by omega) (by decide)
  unfold wpY_copy
  dsimp only
  rw [nI_clamp (n := i) (by omega), nI_clamp (n := j) (by omega)]
  exact ⟨vi, vj, nm_e ⟨vi, vj, nm_e ⟨vi, vj, nm_e h⟩⟩⟩
theorem pc_sw (a : Nat → Int32) {r s k : Nat} (hr : r < 10) (hs : s < 10) (hk : k < 10) : upd (upd (upd a 10 (a r)) r (upd a 10 (a r) s)) s (upd (upd a 10 (a r)) r (upd a 10 (a r) s) 10) k = upd (upd a r (a s)) s (a r) k := by
  by_cases e : k = s
  · subst e; rw [pk_us, pk_us, pk_un (by omega), pk_us]
  · rw [pk_un e, pk_un e]
    by_cases g : k = r
    · subst g; rw [pk_us, pk_us, pk_un (by omega)]
    · rw [pk_un g, pk_un g, pk_un (by omega)]
theorem pc_swX {post : Int32 → SX → Prop} {R : Nat → Nat × Nat × Nat} {a b d : Nat → Int32} {c r s : Nat} (S : pc_St R a b d) (hc : c ≤ 10) (hr : r < c) (hs : s < c) (h : ∀ a' b' d', pc_St (pc_up (pc_up R r (R s)) s (R r)) a' b' d' → post 0 (nI c, a', b', d')) : wpX_swap post (nI c, a, b, d) (nI r) (nI s) := by
  have vr : vp_in (nI r) 10 := vp_in_nI (by omega) (by decide)
  have vs : vp_in (nI s) 10 := vp_in_nI (by omega) (by decide)
  obtain ⟨e1, e2, e3⟩ := S r (by omega)
  unfold wpX_swap
  dsimp only
  rw [nI_clamp (n := r) (by omega), nI_clamp (n := s) (by omega)]
  refine pc_irX1 hr hc (br_f pc_10 (pc_irX1 hs hc (br_f pc_10 ⟨vr, nm_e ⟨vr, nm_e ⟨vr, nm_e ?_⟩⟩⟩)))
  exact pc_cpX s r S (by omega) (by omega) rfl rfl (fun a' b' d' S' => ⟨vs, nm_e ⟨vs, nm_e ⟨vs, nm_e (h _ _ _ (pc_Su S' e1 e2 e3))⟩⟩⟩)
theorem pc_swY {post : Int32 → SY → Prop} {R : Nat → Nat × Nat × Nat} {a b d : Nat → Int32} {c r s : Nat} (S : pc_St R a b d) (hc : c ≤ 10) (hr : r < c) (hs : s < c) (h : ∀ a' b' d', pc_St (pc_up (pc_up R r (R s)) s (R r)) a' b' d' → post 0 (nI c, a', b', d')) : wpY_swap post (nI c, a, b, d) (nI r) (nI s) := by
  obtain ⟨e1, e2, e3⟩ := S r (by omega)
  obtain ⟨g1, g2, g3⟩ := S s (by omega)
  have S' := pc_Su (j := s) (pc_Su (j := r) S g1 g2 g3) e1 e2 e3
  unfold wpY_swap
  dsimp only
  refine pc_irY1 hr hc (br_f pc_10 (pc_irY1 hs hc (br_f pc_10 ?_)))
  refine pc_cqY r 10 (by omega) (by omega) rfl rfl (pc_cqY s r (by omega) (by omega) rfl rfl (pc_cqY 10 s (by omega) (by omega) rfl rfl (h _ _ _ ?_)))
  intro k hk
  obtain ⟨k1, k2, k3⟩ := S' k hk
  exact ⟨(pc_sw a (r := r) (s := s) (by omega) (by omega) hk).trans k1, (pc_sw b (r := r) (s := s) (by omega) (by omega) hk).trans k2, (pc_sw d (r := r) (s := s) (by omega) (by omega) hk).trans k3⟩
/-- the arguments that insert takes -/
def pc_ok (c : Nat) (v1 v2 v3 v4 : Int32) : Prop := ∃ t p g q : Nat, v1 = nI t ∧ v2 = nI p ∧ v3 = nI g ∧ v4 = nI q ∧ t ≤ c ∧ p < 80 ∧ g < 64 ∧ g % 8 ≤ g / 8 ∧ q < 256 ∧ q % 8 ≤ q / 8 % 8
theorem pc_i0X {post : Int32 → SX → Prop} {a b d : Nat → Int32} {c : Nat} {v1 v2 v3 v4 : Int32} (hc : c ≤ 10) (bad : ¬ pc_ok c v1 v2 v3 v4) (h : post (-1) (nI c, a, b, d)) : wpX_insert post (nI c, a, b, d) v1 v2 v3 v4 := by
  unfold wpX_insert
  dsimp only
  refine br_c (fun _ => h) fun z0 => ?_
  obtain ⟨t, ht, rfl⟩ := nI_of z0
  refine pk_le t c (fun h1 => ?_) (fun _ => h)
  refine br_c (fun _ => h) fun z2 => ?_
  obtain ⟨p, hp, rfl⟩ := nI_of z2
  refine pk_lt p 80 (fun h3 => ?_) (fun _ => h)
  refine br_c (fun _ => h) fun z4 => ?_
  obtain ⟨g, hg, rfl⟩ := nI_of z4
  refine pk_le 64 g (fun _ => h) (fun h5 => ?_)
  refine pc_loX hg (pc_hiX hg ?_)
  refine pk_le (g % 8) (g / 8 % 8) (fun h6 => ?_) (fun _ => h)
  refine br_c (fun _ => h) fun z7 => ?_
  obtain ⟨q, hq, rfl⟩ := nI_of z7
  refine pk_le 256 q (fun _ => h) (fun h8 => ?_)
  refine pc_loX hq (pc_hiX hq ?_)
  refine pk_le (q % 8) (q / 8 % 8) (fun h9 => ?_) (fun _ => h)
  exact absurd ⟨t, p, g, q, rfl, rfl, rfl, rfl, h1, h3, h5, by omega, h8, h9⟩ bad
theorem pc_i0Y {post : Int32 → SY → Prop} {a b d : Nat → Int32} {c : Nat} {v1 v2 v3 v4 : Int32} (hc : c ≤ 10) (bad : ¬ pc_ok c v1 v2 v3 v4) (h : post (-1) (nI c, a, b, d)) : wpY_insert post (nI c, a, b, d) v1 v2 v3 v4 := by
  unfold wpY_insert
  dsimp only
  refine br_c (fun _ => h) fun z0 => ?_
  obtain ⟨t, ht, rfl⟩ := nI_of z0
  refine pk_lt c t (fun _ => h) (fun h1 => ?_)
  refine br_c (fun _ => h) fun z2 => ?_
  obtain ⟨p, hp, rfl⟩ := nI_of z2
  refine pk_lt 79 p (fun _ => h) (fun h3 => ?_)
  refine br_c (fun _ => h) fun z4 => ?_
  obtain ⟨g, hg, rfl⟩ := nI_of z4
  refine pk_lt 63 g (fun _ => h) (fun h5 => ⟨pc_8, pc_8, ?_⟩)
  refine pk_le (g % 8) (g / 8) (fun h6 => ?_) (fun _ => h) (pc_r8 hg) (pc_d8 hg)
  refine br_c (fun _ => h) fun z7 => ?_
  obtain ⟨q, hq, rfl⟩ := nI_of z7
  refine pk_lt 255 q (fun _ => h) (fun h8 => ⟨pc_8, pc_8, pc_8, ?_⟩)
  refine pk_le (q % 8) (q / 8 % 8) (fun h9 => ?_) (fun _ => h) (pc_r8 hq) (pc_r88 hq)
  exact absurd ⟨t, p, g, q, rfl, rfl, rfl, rfl, h1, by omega, by omega, h6, by omega, h9⟩ bad
theorem pc_i1X {post : Int32 → SX → Prop} {R : Nat → Nat × Nat × Nat} {a b d : Nat → Int32} {c t p g q : Nat} (S : pc_St R a b d) (hc : c ≤ 10) (h1 : t ≤ c) (h3 : p < 80) (h5 : g < 64) (h6 : g % 8 ≤ g / 8) (h8 : q < 256) (h9 : q % 8 ≤ q / 8 % 8) (hf : c = 10 → post (-2) (nI c, a, b, d)) (h : c < 10 → ∀ a' b' d', pc_St (pc_up (pc_sh t (c - t) R) t (p, g, q)) a' b' d' → post (nI (c + 1)) (nI (c + 1), a', b', d')) : wpX_insert post (nI c, a, b, d) (nI t) (nI p) (nI g) (nI q) := by
  unfold wpX_insert
  dsimp only
  refine br_f (nI_pos (by omega)) (br_t (nI_le h1 (by omega)) (br_f (nI_pos (by omega)) (br_t (nI_lt (b := 80) h3 (by decide)) (br_f (nI_pos (by omega)) (br_f (nI_ge (b := 64) h5 (by decide)) (pc_loX (by omega) (pc_hiX (by omega) (br_t (nI_le (by omega) (by omega)) ?_))))))))
  refine br_f (nI_pos (by omega)) (br_f (nI_ge (b := 256) h8 (by decide)) (pc_loX (by omega) (pc_hiX (by omega) (br_t (nI_le h9 (by omega)) ?_))))
  refine pk_lt c 10 (fun k => ?_) (fun k => hf (by omega))
  have e := pc_isX (post := post) (t := t) (c := c) (p := p) (g := g) (q := q) k (c - t) R a b d S (by omega) (h k)
  rw [show t + (c - t) = c by omega] at e
  exact ⟨_, e⟩
theorem pc_i1Y {post : Int32 → SY → Prop} {R : Nat → Nat × Nat × Nat} {a b d : Nat → Int32} {c t p g q : Nat} (S : pc_St R a b d) (hc : c ≤ 10) (h1 : t ≤ c) (h3 : p < 80) (h5 : g < 64) (h6 : g % 8 ≤ g / 8) (h8 : q < 256) (h9 : q % 8 ≤ q / 8 % 8) (hf : c = 10 → post (-2) (nI c, a, b, d)) (h : c < 10 → ∀ a' b' d', pc_St (pc_up (pc_sh t (c - t) R) t (p, g, q)) a' b' d' → post (nI (c + 1)) (nI (c + 1), a', b', d')) : wpY_insert post (nI c, a, b, d) (nI t) (nI p) (nI g) (nI q) := by
  unfold wpY_insert
  dsimp only
  refine br_f (nI_pos (by omega)) (br_f (nI_nlt h1 (by omega)) (br_f (nI_pos (by omega)) (br_f (nI_nlt (a := 79) (by omega) (by decide)) (br_f (nI_pos (by omega)) (br_f (nI_nlt (a := 63) (by omega) (by decide)) ⟨pc_8, pc_8, ?_⟩)))))
  refine pk_le (g % 8) (g / 8) (fun _ => ?_) (fun k => absurd h6 (Nat.not_le.mpr k)) (pc_r8 (by omega)) (pc_d8 (by omega))
  refine br_f (nI_pos (by omega)) (br_f (nI_nlt (a := 255) (by omega) (by decide)) ⟨pc_8, pc_8, pc_8, ?_⟩)
  refine pk_le (q % 8) (q / 8 % 8) (fun _ => ?_) (fun k => absurd h9 (Nat.not_le.mpr k)) (pc_r8 (by omega)) (pc_r88 (by omega))
  refine pk_eq c 10 (fun k => hf k) (fun k => ?_)
  have e := pc_isY (post := post) (t := t) (c := c) (p := p) (g := g) (q := q) (by omega) (c - t) R a b d S (by omega) (h (by omega))
  rw [show t + (c - t) = c by omega] at e
  exact ⟨_, e⟩
