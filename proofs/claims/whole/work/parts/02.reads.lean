theorem pc_loX {post : Int32 → Prop} {n : Nat} (h : n < 2 ^ 31) (hp : post (nI (n % 8))) : wpX_low post (nI n) := by
  unfold wpX_low
  rw [pc_and7 h]
  exact hp
theorem pc_hiX {post : Int32 → Prop} {n : Nat} (h : n < 2 ^ 31) (hp : post (nI (n / 8 % 8))) : wpX_high post (nI n) := by
  unfold wpX_high
  rw [pc_hi h]
  exact hp
theorem pc_pfX {post : Int32 → Prop} {q p : Nat} (hq : q < 80) (hp : p < 16) (h1 : p / 2 ^ (4 - q / 16) = q % 16 / 2 ^ (4 - q / 16) → post 1) (h0 : p / 2 ^ (4 - q / 16) ≠ q % 16 / 2 ^ (4 - q / 16) → post 0) : wpX_prefixHolds post (nI q) (nI p) := by
  refine nm_r (pc_and15 (by omega)) (nm_r (e' := nI (4 - q / 16)) (by rw [pc_s4 (by omega), pc_4s (by omega)]) ?_)
  exact pk_eq (p / 2 ^ (4 - q / 16)) (q % 16 / 2 ^ (4 - q / 16)) h1 h0 (pc_sv (by omega) (by omega)) (pc_sv (by omega) (by omega)) (Nat.lt_of_le_of_lt (Nat.div_le_self _ _) (by omega)) (Nat.lt_of_le_of_lt (Nat.div_le_self _ _) (by omega))
theorem pc_hoX {post : Int32 → Prop} {R : Nat → Nat × Nat × Nat} {f : Int32} {a b d : Nat → Int32} (S : pc_St R a b d) (B : pc_Bd R) {r p : Nat} (hr : r < 10) (hp : p < 1024) (h1 : pc_H R p r = true → post 1) (h0 : pc_H R p r = false → post 0) : wpX_holds post (f, a, b, d) (nI r) (nI p) := by
  obtain ⟨ea, eb, ed⟩ := S r hr
  obtain ⟨ba, bb, bd⟩ := B r hr
  have hi : vp_in (nI r) 10 := vp_in_nI hr (by decide)
  have ec : (nI r).toNatClampNeg = r := nI_clamp (by omega)
  have g0 : ¬ pc_P (R r) p → post 0 := fun n => h0 (pc_Hf n)
  have g1 : pc_P (R r) p → post 1 := fun n => h1 (pc_Ht n)
  unfold wpX_holds
  dsimp only
  rw [ec, ea, eb, ed]
  refine nm_r (pc_s6 (by omega)) (nm_r (pc_hi (by omega)) (nm_r (pc_and7 (by omega)) ⟨hi, nm_e ⟨hi, nm_e ⟨hi, ?_⟩⟩⟩))
  refine pc_pfX ba (by omega) (fun h1 => ?_) (fun n1 => br_t rfl (g0 (fun z => n1 z.1)))
  refine br_f pc_10 ?_
  refine pc_loX (by omega) ?_
  refine pk_lt (p / 8 % 8) ((R r).2.1 % 8) (fun n => g0 (fun z => absurd z.2.1 (Nat.not_le.mpr n))) (fun h2 => ?_)
  refine pc_hiX (by omega) ?_
  refine pk_lt ((R r).2.1 / 8 % 8) (p / 8 % 8) (fun n => g0 (fun z => absurd z.2.2.1 (Nat.not_le.mpr n))) (fun h3 => ?_)
  refine pc_loX (by omega) ?_
  refine pk_lt (p % 8) ((R r).2.2 % 8) (fun n => g0 (fun z => absurd z.2.2.2.1 (Nat.not_le.mpr n))) (fun h4 => ?_)
  refine pc_hiX (by omega) ?_
  exact pk_lt ((R r).2.2 / 8 % 8) (p % 8) (fun n => g0 (fun z => absurd z.2.2.2.2 (Nat.not_le.mpr n))) (fun h5 => g1 ⟨h1, h2, h3, h4, h5⟩)
theorem pc_hoY {post : Int32 → Prop} {R : Nat → Nat × Nat × Nat} {f : Int32} {a b d : Nat → Int32} (S : pc_St R a b d) (B : pc_Bd R) {r p : Nat} (hr : r < 10) (hp : p < 1024) (h1 : pc_H R p r = true → post 1) (h0 : pc_H R p r = false → post 0) : wpY_holds post (f, a, b, d) (nI r) (nI p) := by
  obtain ⟨ea, eb, ed⟩ := S r hr
  obtain ⟨ba, bb, bd⟩ := B r hr
  have hi : vp_in (nI r) 11 := vp_in_nI (by omega) (by decide)
  have ec : (nI r).toNatClampNeg = r := nI_clamp (by omega)
  have g0 : ¬ pc_P (R r) p → post 0 := fun n => h0 (pc_Hf n)
  have g1 : pc_P (R r) p → post 1 := fun n => h1 (pc_Ht n)
  unfold wpY_holds
  dsimp only
  rw [ec, ea, eb, ed]
  refine ⟨pc_64, nm_r (pc_d64 (by omega)) ⟨pc_8, pc_8, nm_r (pc_r88 (by omega)) ⟨pc_8, nm_r (pc_r8 (by omega)) ⟨hi, pc_16, nm_r (e' := nI (4 - (R r).1 / 16)) (by rw [pc_d16 (by omega), pc_4s (by omega)]) ⟨hi, pc_16, ?_⟩⟩⟩⟩⟩
  refine pk_eq (p / 64 / 2 ^ (4 - (R r).1 / 16)) ((R r).1 % 16 / 2 ^ (4 - (R r).1 / 16)) (fun h1 => ⟨hi, pc_8, ?_⟩) (fun n1 => g0 (fun z => n1 z.1)) (pc_sv (by omega) (by omega)) (by rw [pc_r16 (by omega), pc_sv (by omega) (by omega)]) (Nat.lt_of_le_of_lt (Nat.div_le_self _ _) (by omega)) (Nat.lt_of_le_of_lt (Nat.div_le_self _ _) (by omega))
  refine pk_lt (p / 8 % 8) ((R r).2.1 % 8) (fun n => g0 (fun z => absurd z.2.1 (Nat.not_le.mpr n))) (fun h2 => ⟨hi, pc_8, ?_⟩) rfl (pc_r8 (by omega))
  refine pk_lt ((R r).2.1 / 8) (p / 8 % 8) (fun n => g0 (fun z => absurd z.2.2.1 (by omega))) (fun h3 => ⟨hi, pc_8, ?_⟩) (pc_d8 (by omega)) rfl
  refine pk_lt (p % 8) ((R r).2.2 % 8) (fun n => g0 (fun z => absurd z.2.2.2.1 (Nat.not_le.mpr n))) (fun h4 => ⟨hi, pc_8, pc_8, ?_⟩) rfl (pc_r8 (by omega))
  exact pk_lt ((R r).2.2 / 8 % 8) (p % 8) (fun n => g0 (fun z => absurd z.2.2.2.2 (Nat.not_le.mpr n))) (fun h5 => g1 ⟨h1, h2, by omega, h4, h5⟩) (pc_r88 (by omega)) rfl
/-- the decider of packet p, and the next one behind r -/
noncomputable def pc_D (R : Nat → Nat × Nat × Nat) (c p : Nat) : Int32 := pc_F (pc_H R p) c 0
noncomputable def pc_E (R : Nat → Nat × Nat × Nat) (c r p : Nat) : Int32 := pc_F (pc_H R p) (c - (r + 1)) (r + 1)
theorem pc_Dr (R : Nat → Nat × Nat × Nat) (c p : Nat) : pc_D R c p = -4 ∨ ∃ k, k < c ∧ pc_D R c p = nI k := by
  cases pc_Fr (pc_H R p) c 0 with
  | inl e => exact Or.inl e
  | inr e => obtain ⟨k, hk, e⟩ := e; exact Or.inr ⟨k, by omega, e⟩
theorem pc_Er (R : Nat → Nat × Nat × Nat) {c r : Nat} (hr : r < c) (p : Nat) : pc_E R c r p = -4 ∨ ∃ k, k < c ∧ pc_E R c r p = nI k := by
  cases pc_Fr (pc_H R p) (c - (r + 1)) (r + 1) with
  | inl e => exact Or.inl e
  | inr e => obtain ⟨k, hk, e⟩ := e; exact Or.inr ⟨k, by omega, e⟩
theorem pc_fiX {post : Int32 → Prop} {R : Nat → Nat × Nat × Nat} {a b d : Nat → Int32} {c p : Nat} (S : pc_St R a b d) (B : pc_Bd R) (hc : c ≤ 10) (hp : p < 1024) : ∀ n i, i + n = c → post (pc_F (pc_H R p) n i) → wX_firstHolding_2 post (nI p) (nI c) a b d (n + 1) (nI i) := by
  intro n
  induction n with
  | zero => intro i hi h; exact br_t (nI_le (by omega) (by omega)) h
  | succ n ih =>
    intro i hi h
    refine br_f (nI_ge (by omega) (by omega)) (pc_hoX S B (by omega) hp (fun e => ?_) (fun e => ?_))
    · rw [pc_Ft e] at h; exact br_f pc_10 h
    · rw [pc_Ff e] at h; exact br_t rfl (nm_r (nI_1 i) (ih (i + 1) (by omega) h))
theorem pc_fiY {post : Int32 → Prop} {R : Nat → Nat × Nat × Nat} {a b d : Nat → Int32} {c p : Nat} (S : pc_St R a b d) (B : pc_Bd R) (hc : c ≤ 10) (hp : p < 1024) : ∀ n i, i + n = c → post (pc_F (pc_H R p) n i) → wY_first_2 post (nI p) (nI c) a b d (n + 1) (nI i) := by
  intro n
  induction n with
  | zero => intro i hi h; exact br_t (nI_le (by omega) (by omega)) h
  | succ n ih =>
    intro i hi h
    refine br_f (nI_ge (by omega) (by omega)) (pc_hoY S B (by omega) hp (fun e => ?_) (fun e => ?_))
    · rw [pc_Ft e] at h; exact br_f pc_10 h
    · rw [pc_Ff e] at h; exact br_t rfl (nm_r (nI_1 i) (ih (i + 1) (by omega) h))
theorem pc_f0X {post : Int32 → Prop} {R : Nat → Nat × Nat × Nat} {a b d : Nat → Int32} {c p : Nat} (S : pc_St R a b d) (B : pc_Bd R) (hc : c ≤ 10) (hp : p < 1024) (h : post (pc_D R c p)) : wpX_firstHolding post (nI c, a, b, d) (nI p) 0 := by
  have g := pc_fiX S B hc hp c 0 (by omega) h
  rw [nI_0] at g
  exact ⟨_, g⟩
theorem pc_f0Y {post : Int32 → Prop} {R : Nat → Nat × Nat × Nat} {a b d : Nat → Int32} {c p : Nat} (S : pc_St R a b d) (B : pc_Bd R) (hc : c ≤ 10) (hp : p < 1024) (h : post (pc_D R c p)) : wpY_first post (nI c, a, b, d) 0 (nI p) := by
  have g := pc_fiY S B hc hp c 0 (by omega) h
  rw [nI_0] at g
  exact ⟨_, g⟩
theorem pc_f1X {post : Int32 → Prop} {R : Nat → Nat × Nat × Nat} {a b d : Nat → Int32} {c p r : Nat} (S : pc_St R a b d) (B : pc_Bd R) (hc : c ≤ 10) (hp : p < 1024) (hr : r < c) (h : post (pc_E R c r p)) : wpX_firstHolding post (nI c, a, b, d) (nI p) (nI r + 1) := by
  have g := pc_fiX S B hc hp (c - (r + 1)) (r + 1) (by omega) h
  rw [nI_1]
  exact ⟨_, g⟩
theorem pc_f1Y {post : Int32 → Prop} {R : Nat → Nat × Nat × Nat} {a b d : Nat → Int32} {c p r : Nat} (S : pc_St R a b d) (B : pc_Bd R) (hc : c ≤ 10) (hp : p < 1024) (hr : r < c) (h : post (pc_E R c r p)) : wpY_first post (nI c, a, b, d) (nI r + 1) (nI p) := by
  have g := pc_fiY S B hc hp (c - (r + 1)) (r + 1) (by omega) h
  rw [nI_1]
  exact ⟨_, g⟩
theorem pc_irX1 {post : Int32 → Prop} {a b d : Nat → Int32} {c k : Nat} (hk : k < c) (hc : c ≤ 10) (h : post 1) : wpX_isRule post (nI c, a, b, d) (nI k) := br_f (nI_pos (by omega)) (br_f (nI_ge hk (by omega)) h)
theorem pc_irX0 {post : Int32 → Prop} {f : Int32} {a b d : Nat → Int32} {r : Int32} (hr : r < 0 ∨ f ≤ r) (h : post 0) : wpX_isRule post (f, a, b, d) r := by
  by_cases z : r < 0
  · exact br_t z h
  · exact br_f z (br_t (hr.resolve_left z) h)
theorem pc_irY1 {post : Int32 → Prop} {a b d : Nat → Int32} {c k : Nat} (hk : k < c) (hc : c ≤ 10) (h : post 1) : wpY_isRule post (nI c, a, b, d) (nI k) := br_f (nI_pos (by omega)) (br_f (nI_ge hk (by omega)) h)
theorem pc_irY0 {post : Int32 → Prop} {f : Int32} {a b d : Nat → Int32} {r : Int32} (hr : r < 0 ∨ f ≤ r) (h : post 0) : wpY_isRule post (f, a, b, d) r := by
  by_cases z : r < 0
  · exact br_t z h
  · exact br_f z (br_t (hr.resolve_left z) h)
theorem pc_ru (v : Int32) {c : Nat} (hc : c ≤ 10) : (v < 0 ∨ nI c ≤ v) ∨ ∃ k, k < c ∧ v = nI k := by
  cases pk_ix v (n := c) (by omega) with
  | inl h => exact Or.inl (Or.inl h)
  | inr h => cases h with
    | inl h => exact Or.inl (Or.inr h)
    | inr h => exact Or.inr h
theorem pc_pa (v : Int32) : (v < 0 ∨ nI 1024 ≤ v) ∨ ∃ k, k < 1024 ∧ v = nI k := by
  cases pk_ix v (n := 1024) (by omega) with
  | inl h => exact Or.inl (Or.inl h)
  | inr h => cases h with
    | inl h => exact Or.inl (Or.inr h)
    | inr h => exact Or.inr h
theorem pc_ipX1 {post : Int32 → Prop} {p : Nat} (hp : p < 1024) (h : post 1) : wpX_isPacket post (nI p) := br_f (nI_pos (by omega)) (br_f (pc_n1024 hp) h)
theorem pc_ipX0 {post : Int32 → Prop} {v : Int32} (hv : v < 0 ∨ nI 1024 ≤ v) (h : post 0) : wpX_isPacket post v := by
  by_cases z : v < 0
  · exact br_t z h
  · exact br_f z (br_t (hv.resolve_left z) h)
theorem pc_ipY1 {post : Int32 → Prop} {f : Int32} {a b d : Nat → Int32} {p : Nat} (hp : p < 1024) (h : post 1) : wpY_isPacket post (f, a, b, d) (nI p) := br_f (nI_pos (by omega)) (br_f (nI_nlt (a := 1023) (by omega) (by decide)) h)
theorem pc_ipY0 {post : Int32 → Prop} {f : Int32} {a b d : Nat → Int32} {v : Int32} (hv : v < 0 ∨ nI 1024 ≤ v) (h : post 0) : wpY_isPacket post (f, a, b, d) v := by
  by_cases z : v < 0
  · exact br_t z h
  · obtain ⟨j, hj, rfl⟩ := nI_of z
    have g := (nI_leI (a := 1024) (b := j) (by decide) hj).mp (hv.resolve_left z)
    exact br_f z (br_t (nI_lt (a := 1023) (b := j) (by omega) hj) h)
/-- the action of rule r, or NONE -/
def pc_A (R : Nat → Nat × Nat × Nat) (r : Int32) : Int32 := if r < 0 then -4 else nI ((R r.toNatClampNeg).2.2 / 64)
theorem pc_A0 (R : Nat → Nat × Nat × Nat) : pc_A R (-4) = -4 := if_pos pc_m4
theorem pc_A1 (R : Nat → Nat × Nat × Nat) {k : Nat} (hk : k < 10) : pc_A R (nI k) = nI ((R k).2.2 / 64) := by
  unfold pc_A
  rw [if_neg (nI_pos (by omega)), nI_clamp (by omega)]
theorem pc_acX {post : Int32 → Prop} {R : Nat → Nat × Nat × Nat} {a b d : Nat → Int32} {c : Nat} {r : Int32} (S : pc_St R a b d) (B : pc_Bd R) (hc : c ≤ 10) (hr : r = -4 ∨ ∃ k, k < c ∧ r = nI k) (h : post (pc_A R r)) : wpX_actionOrNone post (nI c, a, b, d) r := by
  unfold wpX_actionOrNone
  dsimp only
  cases hr with
  | inl e =>
    subst e
    rw [pc_A0] at h
    exact pc_irX0 (Or.inl pc_m4) (br_t rfl h)
  | inr e =>
    obtain ⟨k, hk, rfl⟩ := e
    rw [pc_A1 R (by omega)] at h
    refine pc_irX1 hk hc (br_f pc_10 ⟨vp_in_nI (by omega) (by decide), ?_⟩)
    have hb := (B k (by omega)).2.2
    rw [nI_clamp (by omega), (S k (by omega)).2.2, pc_s6 (by omega)]
    exact h
theorem pc_acY {post : Int32 → Prop} {R : Nat → Nat × Nat × Nat} {a b d : Nat → Int32} {c : Nat} {r f : Int32} (S : pc_St R a b d) (B : pc_Bd R) (hc : c ≤ 10) (hr : r = -4 ∨ ∃ k, k < c ∧ r = nI k) (h : post (pc_A R r)) : wpY_actionOf post (f, a, b, d) r := by
  unfold wpY_actionOf
  dsimp only
  cases hr with
  | inl e =>
    subst e
    rw [pc_A0] at h
    exact br_f pc_m4' h
  | inr e =>
    obtain ⟨k, hk, rfl⟩ := e
    rw [pc_A1 R (by omega)] at h
    refine br_t (nI_pos' (by omega)) ⟨vp_in_nI (by omega) (by decide), pc_64, ?_⟩
    have hb := (B k (by omega)).2.2
    rw [nI_clamp (by omega), (S k (by omega)).2.2, pc_d64 (by omega)]
    exact h
theorem pc_anY {post : Int32 → Prop} {R : Nat → Nat × Nat × Nat} {a b d : Nat → Int32} {c p : Nat} (S : pc_St R a b d) (B : pc_Bd R) (hc : c ≤ 10) (hp : p < 1024) (h : post (pc_A R (pc_D R c p))) : wpY_action post (nI c, a, b, d) (nI p) := by
  unfold wpY_action
  dsimp only
  exact pc_ipY1 hp (br_f pc_10 (pc_f0Y S B hc hp (pc_acY S B hc (pc_Dr R c p) h)))
