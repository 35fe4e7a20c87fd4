noncomputable def pc_fH (R : Nat → Nat × Nat × Nat) (p r : Nat) (x : Int32) : Int32 := match pc_H R p r with | true => x ||| ((1 : Int32) <<< (nI r &&& 31)) | false => x
noncomputable def pc_fC (R : Nat → Nat × Nat × Nat) (p r : Nat) (x : Int32) : Int32 := match pc_H R p r with | true => x + 1 | false => x
noncomputable def pc_fR (R : Nat → Nat × Nat × Nat) (r p : Nat) (x : Int32) : Int32 := match pc_H R p r with | true => x + 1 | false => x
noncomputable def pc_fD (R : Nat → Nat × Nat × Nat) (c : Nat) (q : Int32) (p : Nat) (x : Int32) : Int32 := if pc_D R c p = q then x + 1 else x
noncomputable def pc_fA (R : Nat → Nat × Nat × Nat) (c : Nat) (q : Int32) (p : Nat) (x : Int32) : Int32 := if pc_A R (pc_D R c p) = q then x + 1 else x
noncomputable def pc_cd (R : Nat → Nat × Nat × Nat) (c : Nat) (q : Int32) : Int32 := pc_I (pc_fD R c q) 1024 0 0
noncomputable def pc_fI (R : Nat → Nat × Nat × Nat) (c r : Nat) (x : Int32) : Int32 := if pc_cd R c (nI r) = 0 then x + 1 else x
noncomputable def pc_fW (R : Nat → Nat × Nat × Nat) (c r p : Nat) (x : Int32) : Int32 := if pc_D R c p = nI r then (if pc_A R (pc_E R c r p) = pc_A R (nI r) then x else x + 1) else x
noncomputable def pc_cn (R : Nat → Nat × Nat × Nat) (c p : Nat) : Int32 := pc_I (pc_fC R p) c 0 0
noncomputable def pc_fM (R : Nat → Nat × Nat × Nat) (c p : Nat) (x : Int32) : Int32 := if pc_cn R c p ≤ x then x else pc_cn R c p
noncomputable def pc_N (R : Nat → Nat × Nat × Nat) (c : Nat) (q : Int32) : Nat → Nat → Int32
  | 0, _ => -4
  | n + 1, i => if pc_D R c i = q then nI i else pc_N R c q n (i + 1)
theorem pc_Nt {R : Nat → Nat × Nat × Nat} {c n i : Nat} {q : Int32} (h : pc_D R c i = q) : pc_N R c q (n + 1) i = nI i := by rw [pc_N, if_pos h]
theorem pc_Nf {R : Nat → Nat × Nat × Nat} {c n i : Nat} {q : Int32} (h : ¬ pc_D R c i = q) : pc_N R c q (n + 1) i = pc_N R c q n (i + 1) := by rw [pc_N, if_neg h]
theorem pc_fW0 {R : Nat → Nat × Nat × Nat} {c r p : Nat} {x : Int32} (h : ¬ pc_D R c p = nI r) : pc_fW R c r p x = x := if_neg h
theorem pc_fW1 {R : Nat → Nat × Nat × Nat} {c r p : Nat} {x : Int32} (h : pc_D R c p = nI r) (g : pc_A R (pc_E R c r p) = pc_A R (nI r)) : pc_fW R c r p x = x := (if_pos h).trans (if_pos g)
theorem pc_fW2 {R : Nat → Nat × Nat × Nat} {c r p : Nat} {x : Int32} (h : pc_D R c p = nI r) (g : ¬ pc_A R (pc_E R c r p) = pc_A R (nI r)) : pc_fW R c r p x = x + 1 := (if_pos h).trans (if_neg g)
theorem pc_hgX {post : Int32 → Prop} {R : Nat → Nat × Nat × Nat} {a b d : Nat → Int32} {c : Nat} (S : pc_St R a b d) (B : pc_Bd R) (hc : c ≤ 10) {p : Nat} (hp : p < 1024) : ∀ n i x, i + n = c → post (pc_I (pc_fH R p) n i x) → wX_holding_13 post (nI p) (nI c) a b d (n + 1) x (nI i) := by
  intro n
  induction n with
  | zero =>
    intro i x hi h
    exact br_t (nI_le (by omega) (by omega)) h
  | succ n ih =>
    intro i x hi h
    exact br_f (nI_ge (by omega) (by omega)) (pc_hoX S B (by omega) hp (fun e => br_f pc_10 (nm_e (nm_r (nI_1 i) (ih _ _ (by omega) (pc_Is (by simp only [pc_fH, e]) h))))) (fun e => br_t rfl (nm_r (nI_1 i) (ih _ _ (by omega) (pc_Is (by simp only [pc_fH, e]) h)))))
theorem pc_reX {post : Int32 → Prop} {R : Nat → Nat × Nat × Nat} {a b d : Nat → Int32} {c : Nat} (S : pc_St R a b d) (B : pc_Bd R) (hc : c ≤ 10) {r : Nat} (hr : r < c) : ∀ n i x, i + n = 1024 → post (pc_I (pc_fR R r) n i x) → wX_reach_15 post (nI r) (nI c) a b d (n + 1) x (nI i) := by
  intro n
  induction n with
  | zero =>
    intro i x hi h
    obtain rfl : i = 1024 := by omega
    exact br_t pc_1024 h
  | succ n ih =>
    intro i x hi h
    exact br_f (pc_n1024 (by omega)) (pc_hoX S B (by omega) (by omega) (fun e => br_f pc_10 (nm_e (nm_r (nI_1 i) (ih _ _ (by omega) (pc_Is (by simp only [pc_fR, e]) h))))) (fun e => br_t rfl (nm_r (nI_1 i) (ih _ _ (by omega) (pc_Is (by simp only [pc_fR, e]) h)))))
theorem pc_cdX {post : Int32 → Prop} {R : Nat → Nat × Nat × Nat} {a b d : Nat → Int32} {c : Nat} (S : pc_St R a b d) (B : pc_Bd R) (hc : c ≤ 10) (q : Int32) : ∀ n i x, i + n = 1024 → post (pc_I (pc_fD R c q) n i x) → wX_countDecidedBy_4 post q (nI c) a b d (n + 1) x (nI i) := by
  intro n
  induction n with
  | zero =>
    intro i x hi h
    obtain rfl : i = 1024 := by omega
    exact br_t pc_1024 h
  | succ n ih =>
    intro i x hi h
    exact br_f (pc_n1024 (by omega)) (pc_f0X S B hc (by omega) (br_c (fun e => nm_e (nm_r (nI_1 i) (ih _ _ (by omega) (pc_Is (if_pos e) h)))) (fun e => nm_r (nI_1 i) (ih _ _ (by omega) (pc_Is (if_neg e) h)))))
theorem pc_atX {post : Int32 → Prop} {R : Nat → Nat × Nat × Nat} {a b d : Nat → Int32} {c : Nat} (S : pc_St R a b d) (B : pc_Bd R) (hc : c ≤ 10) (q : Int32) : ∀ n i x, i + n = 1024 → post (pc_I (pc_fA R c q) n i x) → wX_acted_15 post q (nI c) a b d (n + 1) x (nI i) := by
  intro n
  induction n with
  | zero =>
    intro i x hi h
    obtain rfl : i = 1024 := by omega
    exact br_t pc_1024 h
  | succ n ih =>
    intro i x hi h
    exact br_f (pc_n1024 (by omega)) (pc_f0X S B hc (by omega) (pc_acX S B hc (pc_Dr R c i) (br_c (fun e => nm_e (nm_r (nI_1 i) (ih _ _ (by omega) (pc_Is (if_pos e) h)))) (fun e => nm_r (nI_1 i) (ih _ _ (by omega) (pc_Is (if_neg e) h))))))
theorem pc_cpdX {post : Int32 → Prop} {R : Nat → Nat × Nat × Nat} {a b d : Nat → Int32} {c : Nat} (S : pc_St R a b d) (B : pc_Bd R) (hc : c ≤ 10) (q : Int32) (h : post (pc_cd R c q)) : wpX_countDecidedBy post (nI c, a, b, d) q := by
  have g := pc_cdX S B hc q 1024 0 0 (by omega) h
  rw [nI_0] at g
  exact ⟨_, g⟩
theorem pc_idX {post : Int32 → Prop} {R : Nat → Nat × Nat × Nat} {a b d : Nat → Int32} {c : Nat} (S : pc_St R a b d) (B : pc_Bd R) (hc : c ≤ 10) : ∀ n i x, i + n = c → post (pc_I (pc_fI R c) n i x) → wX_idle_4 post (nI c) a b d (n + 1) x (nI i) := by
  intro n
  induction n with
  | zero =>
    intro i x hi h
    exact br_t (nI_le (by omega) (by omega)) h
  | succ n ih =>
    intro i x hi h
    exact br_f (nI_ge (by omega) (by omega)) (pc_cpdX S B hc _ (br_c (fun e => nm_e (nm_r (nI_1 i) (ih _ _ (by omega) (pc_Is (if_pos e) h)))) (fun e => nm_r (nI_1 i) (ih _ _ (by omega) (pc_Is (if_neg e) h)))))
theorem pc_chX {post : Int32 → Prop} {R : Nat → Nat × Nat × Nat} {a b d : Nat → Int32} {c : Nat} (S : pc_St R a b d) (B : pc_Bd R) (hc : c ≤ 10) {p : Nat} (hp : p < 1024) : ∀ n i x, i + n = c → post (pc_I (pc_fC R p) n i x) → wX_countHolding_4 post (nI p) (nI c) a b d (n + 1) x (nI i) := by
  intro n
  induction n with
  | zero =>
    intro i x hi h
    exact br_t (nI_le (by omega) (by omega)) h
  | succ n ih =>
    intro i x hi h
    exact br_f (nI_ge (by omega) (by omega)) (pc_hoX S B (by omega) hp (fun e => br_f pc_10 (nm_e (nm_r (nI_1 i) (ih _ _ (by omega) (pc_Is (by simp only [pc_fC, e]) h))))) (fun e => br_t rfl (nm_r (nI_1 i) (ih _ _ (by omega) (pc_Is (by simp only [pc_fC, e]) h)))))
theorem pc_cnX {post : Int32 → Prop} {R : Nat → Nat × Nat × Nat} {a b d : Nat → Int32} {c : Nat} (S : pc_St R a b d) (B : pc_Bd R) (hc : c ≤ 10) {p : Nat} (hp : p < 1024) (h : post (pc_cn R c p)) : wpX_countHolding post (nI c, a, b, d) (nI p) := by
  have g := pc_chX S B hc hp c 0 0 (by omega) h
  rw [nI_0] at g
  exact ⟨_, g⟩
theorem pc_deX {post : Int32 → Prop} {R : Nat → Nat × Nat × Nat} {a b d : Nat → Int32} {c : Nat} (S : pc_St R a b d) (B : pc_Bd R) (hc : c ≤ 10) : ∀ n i x, i + n = 1024 → post (pc_I (pc_fM R c) n i x) → wX_deepest_4 post (nI c) a b d (n + 1) x (nI i) := by
  intro n
  induction n with
  | zero =>
    intro i x hi h
    obtain rfl : i = 1024 := by omega
    exact br_t pc_1024 h
  | succ n ih =>
    intro i x hi h
    exact br_f (pc_n1024 (by omega)) (pc_cnX S B hc (by omega) (br_c (fun e => nm_r (nI_1 i) (ih _ _ (by omega) (pc_Is (if_pos e) h))) (fun e => nm_r (nI_1 i) (ih _ _ (by omega) (pc_Is (if_neg e) h)))))
theorem pc_weX {post : Int32 → Prop} {R : Nat → Nat × Nat × Nat} {a b d : Nat → Int32} {c : Nat} (S : pc_St R a b d) (B : pc_Bd R) (hc : c ≤ 10) {r : Nat} (hr : r < c) : ∀ n i x, i + n = 1024 → post (pc_I (pc_fW R c r) n i x) → wX_weight_15 post (nI r) (nI c) a b d (n + 1) x (nI i) := by
  intro n
  induction n with
  | zero =>
    intro i x hi h
    obtain rfl : i = 1024 := by omega
    exact br_t pc_1024 h
  | succ n ih =>
    intro i x hi h
    exact br_f (pc_n1024 (by omega)) (pc_f0X S B hc (by omega) (br_c (fun e => pc_f1X S B hc (by omega) hr (pc_acX S B hc (pc_Er R hr i) (pc_acX S B hc (Or.inr ⟨r, hr, rfl⟩) (br_c (fun g => nm_r (nI_1 i) (ih _ _ (by omega) (pc_Is (pc_fW1 e g) h))) (fun g => nm_e (nm_r (nI_1 i) (ih _ _ (by omega) (pc_Is (pc_fW2 e g) h)))))))) (fun e => nm_r (nI_1 i) (ih _ _ (by omega) (pc_Is (pc_fW0 e) h)))))
theorem pc_hgY {post : Int32 → Prop} {R : Nat → Nat × Nat × Nat} {a b d : Nat → Int32} {c : Nat} (S : pc_St R a b d) (B : pc_Bd R) (hc : c ≤ 10) {p : Nat} (hp : p < 1024) : ∀ n i x, i + n = c → post (pc_I (pc_fH R p) n i x) → wY_holding_14 post (nI p) (nI c) a b d (n + 1) x (nI i) := by
  intro n
  induction n with
  | zero =>
    intro i x hi h
    exact br_t (nI_le (by omega) (by omega)) h
  | succ n ih =>
    intro i x hi h
    exact br_f (nI_ge (by omega) (by omega)) (pc_hoY S B (by omega) hp (fun e => br_f pc_10 (nm_e (nm_r (nI_1 i) (ih _ _ (by omega) (pc_Is (by simp only [pc_fH, e]) h))))) (fun e => br_t rfl (nm_r (nI_1 i) (ih _ _ (by omega) (pc_Is (by simp only [pc_fH, e]) h)))))
theorem pc_reY {post : Int32 → Prop} {R : Nat → Nat × Nat × Nat} {a b d : Nat → Int32} {c : Nat} (S : pc_St R a b d) (B : pc_Bd R) (hc : c ≤ 10) {r : Nat} (hr : r < c) : ∀ n i x, i + n = 1024 → post (pc_I (pc_fR R r) n i x) → wY_reach_15 post (nI r) (nI c) a b d (n + 1) x (nI i) := by
  intro n
  induction n with
  | zero =>
    intro i x hi h
    obtain rfl : i = 1024 := by omega
    exact br_t pc_1024 h
  | succ n ih =>
    intro i x hi h
    exact br_f (pc_n1024 (by omega)) (pc_hoY S B (by omega) (by omega) (fun e => br_f pc_10 (nm_e (nm_r (nI_1 i) (ih _ _ (by omega) (pc_Is (by simp only [pc_fR, e]) h))))) (fun e => br_t rfl (nm_r (nI_1 i) (ih _ _ (by omega) (pc_Is (by simp only [pc_fR, e]) h)))))
theorem pc_cdY {post : Int32 → Prop} {R : Nat → Nat × Nat × Nat} {a b d : Nat → Int32} {c : Nat} (S : pc_St R a b d) (B : pc_Bd R) (hc : c ≤ 10) (q : Int32) : ∀ n i x, i + n = 1024 → post (pc_I (pc_fD R c q) n i x) → wY_decided_15 post q (nI c) a b d (n + 1) x (nI i) := by
  intro n
  induction n with
  | zero =>
    intro i x hi h
    obtain rfl : i = 1024 := by omega
    exact br_t pc_1024 h
  | succ n ih =>
    intro i x hi h
    exact br_f (pc_n1024 (by omega)) (pc_f0Y S B hc (by omega) (br_c (fun e => nm_e (nm_r (nI_1 i) (ih _ _ (by omega) (pc_Is (if_pos e) h)))) (fun e => nm_r (nI_1 i) (ih _ _ (by omega) (pc_Is (if_neg e) h)))))
theorem pc_udY {post : Int32 → Prop} {R : Nat → Nat × Nat × Nat} {a b d : Nat → Int32} {c : Nat} (S : pc_St R a b d) (B : pc_Bd R) (hc : c ≤ 10) : ∀ n i x, i + n = 1024 → post (pc_I (pc_fD R c (-4)) n i x) → wY_undecided_4 post (nI c) a b d (n + 1) x (nI i) := by
  intro n
  induction n with
  | zero =>
    intro i x hi h
    obtain rfl : i = 1024 := by omega
    exact br_t pc_1024 h
  | succ n ih =>
    intro i x hi h
    exact br_f (pc_n1024 (by omega)) (pc_f0Y S B hc (by omega) (br_c (fun e => nm_e (nm_r (nI_1 i) (ih _ _ (by omega) (pc_Is (if_pos e) h)))) (fun e => nm_r (nI_1 i) (ih _ _ (by omega) (pc_Is (if_neg e) h)))))
theorem pc_atY {post : Int32 → Prop} {R : Nat → Nat × Nat × Nat} {a b d : Nat → Int32} {c : Nat} (S : pc_St R a b d) (B : pc_Bd R) (hc : c ≤ 10) (q : Int32) : ∀ n i x, i + n = 1024 → post (pc_I (pc_fA R c q) n i x) → wY_acted_15 post q (nI c) a b d (n + 1) x (nI i) := by
  intro n
  induction n with
  | zero =>
    intro i x hi h
    obtain rfl : i = 1024 := by omega
    exact br_t pc_1024 h
  | succ n ih =>
    intro i x hi h
    exact br_f (pc_n1024 (by omega)) (pc_anY S B hc (by omega) (br_c (fun e => nm_e (nm_r (nI_1 i) (ih _ _ (by omega) (pc_Is (if_pos e) h)))) (fun e => nm_r (nI_1 i) (ih _ _ (by omega) (pc_Is (if_neg e) h)))))
theorem pc_cpdY {post : Int32 → Prop} {R : Nat → Nat × Nat × Nat} {a b d : Nat → Int32} {c : Nat} (S : pc_St R a b d) (B : pc_Bd R) (hc : c ≤ 10) {r : Nat} (hr : r < c) (h : post (pc_cd R c (nI r))) : wpY_decided post (nI c, a, b, d) (nI r) := by
  unfold wpY_decided
  dsimp only
  have g := pc_cdY S B hc (nI r) 1024 0 0 (by omega) h
  rw [nI_0] at g
  exact pc_irY1 hr hc (br_f pc_10 ⟨_, g⟩)
theorem pc_idY {post : Int32 → Prop} {R : Nat → Nat × Nat × Nat} {a b d : Nat → Int32} {c : Nat} (S : pc_St R a b d) (B : pc_Bd R) (hc : c ≤ 10) : ∀ n i x, i + n = c → post (pc_I (pc_fI R c) n i x) → wY_idle_4 post (nI c) a b d (n + 1) x (nI i) := by
  intro n
  induction n with
  | zero =>
    intro i x hi h
    exact br_t (nI_le (by omega) (by omega)) h
  | succ n ih =>
    intro i x hi h
    exact br_f (nI_ge (by omega) (by omega)) (pc_cpdY S B hc (by omega) (br_c (fun e => nm_e (nm_r (nI_1 i) (ih _ _ (by omega) (pc_Is (if_pos e) h)))) (fun e => nm_r (nI_1 i) (ih _ _ (by omega) (pc_Is (if_neg e) h)))))
theorem pc_dnY {post : Int32 → Prop} {J : Int32 → Int32 → Prop} {R : Nat → Nat × Nat × Nat} {a b d : Nat → Int32} {c p : Nat} {y : Int32} (S : pc_St R a b d) (B : pc_Bd R) (hc : c ≤ 10) (hp : p < 1024) : ∀ n i x, i + n = c → J (if pc_I (pc_fC R p) n i x ≤ y then y else pc_I (pc_fC R p) n i x) (nI (p + 1)) → wY_deepest_16 post J y (nI p) (nI c) a b d (n + 1) x (nI i) := by
  intro n
  induction n with
  | zero =>
    intro i x hi h
    refine br_t (nI_le (by omega) (by omega)) (br_c (fun e => nm_r (nI_1 p) ?_) (fun e => nm_r (nI_1 p) ?_))
    · rw [pc_I, if_pos e] at h; exact h
    · rw [pc_I, if_neg e] at h; exact h
  | succ n ih =>
    intro i x hi h
    rw [pc_I] at h
    refine br_f (nI_ge (by omega) (by omega)) (pc_hoY S B (by omega) hp (fun e => br_f pc_10 (nm_e (nm_r (nI_1 i) (ih _ _ (by omega) ?_)))) (fun e => br_t rfl (nm_r (nI_1 i) (ih _ _ (by omega) ?_))))
    · rw [show pc_fC R p i x = x + 1 from by simp only [pc_fC, e]] at h; exact h
    · rw [show pc_fC R p i x = x from by simp only [pc_fC, e]] at h; exact h
theorem pc_deY {post : Int32 → Prop} {R : Nat → Nat × Nat × Nat} {a b d : Nat → Int32} {c : Nat} (S : pc_St R a b d) (B : pc_Bd R) (hc : c ≤ 10) : ∀ n i x, i + n = 1024 → post (pc_I (pc_fM R c) n i x) → wY_deepest_4 post (nI c) a b d (n + 1) x (nI i) := by
  intro n
  induction n with
  | zero =>
    intro i x hi h
    obtain rfl : i = 1024 := by omega
    exact br_t pc_1024 h
  | succ n ih =>
    intro i x hi h
    have g := pc_dnY (post := post) (J := wY_deepest_4 post (nI c) a b d (n + 1)) (y := x) S B hc (show i < 1024 by omega) c 0 0 (by omega) (ih (i + 1) _ (by omega) h)
    rw [nI_0] at g
    exact br_f (pc_n1024 (by omega)) ⟨_, g⟩
theorem pc_weY {post : Int32 → Prop} {R : Nat → Nat × Nat × Nat} {a b d : Nat → Int32} {c : Nat} (S : pc_St R a b d) (B : pc_Bd R) (hc : c ≤ 10) {r : Nat} (hr : r < c) : ∀ n i x, i + n = 1024 → post (pc_I (pc_fW R c r) n i x) → wY_weight_15 post (nI r) (nI c) a b d (n + 1) x (nI i) := by
  intro n
  induction n with
  | zero =>
    intro i x hi h
    obtain rfl : i = 1024 := by omega
    exact br_t pc_1024 h
  | succ n ih =>
    intro i x hi h
    exact br_f (pc_n1024 (by omega)) (pc_f0Y S B hc (by omega) (br_c (fun e => pc_f1Y S B hc (by omega) hr (pc_acY S B hc (pc_Er R hr i) (pc_acY S B hc (Or.inr ⟨r, hr, rfl⟩) (br_c (fun g => nm_r (nI_1 i) (ih _ _ (by omega) (pc_Is (pc_fW1 e g) h))) (fun g => nm_e (nm_r (nI_1 i) (ih _ _ (by omega) (pc_Is (pc_fW2 e g) h)))))))) (fun e => nm_r (nI_1 i) (ih _ _ (by omega) (pc_Is (pc_fW0 e) h)))))
theorem pc_neX {post : Int32 → Prop} {R : Nat → Nat × Nat × Nat} {a b d : Nat → Int32} {c : Nat} (S : pc_St R a b d) (B : pc_Bd R) (hc : c ≤ 10) {r : Nat} (hr : r < c) : ∀ n i, n = 1024 - i → i < 2 ^ 31 → post (pc_N R c (nI r) n i) → wX_next_24 post (nI r) (nI c) a b d (n + 1) (nI i) := by
  intro n
  induction n with
  | zero =>
    intro i hi hb h
    exact br_t (nI_le (a := 1024) (by omega) hb) h
  | succ n ih =>
    intro i hi hb h
    exact br_f (pc_n1024 (by omega)) (pc_f0X S B hc (by omega) (br_c (fun e => by rw [pc_Nt e] at h; exact h) (fun e => by rw [pc_Nf e] at h; exact nm_r (nI_1 i) (ih _ (by omega) (by omega) h))))
theorem pc_neY {post : Int32 → Prop} {R : Nat → Nat × Nat × Nat} {a b d : Nat → Int32} {c : Nat} (S : pc_St R a b d) (B : pc_Bd R) (hc : c ≤ 10) {r : Nat} (hr : r < c) : ∀ n i, n = 1024 - i → i < 2 ^ 31 → post (pc_N R c (nI r) n i) → wY_next_10 post (nI r) (nI c) a b d (n + 1) (nI i) := by
  intro n
  induction n with
  | zero =>
    intro i hi hb h
    exact br_t (nI_le (a := 1024) (by omega) hb) h
  | succ n ih =>
    intro i hi hb h
    exact br_f (pc_n1024 (by omega)) (pc_irY1 hr hc (br_f pc_10 (pc_f0Y S B hc (by omega) (br_c (fun e => by rw [pc_Nt e] at h; exact h) (fun e => by rw [pc_Nf e] at h; exact nm_r (nI_1 i) (ih _ (by omega) (by omega) h))))))
