section
theorem pk_us {f : Nat → Int32} {k : Nat} {x : Int32} : upd f k x k = x := if_pos rfl
theorem pk_un {f : Nat → Int32} {k j : Nat} {x : Int32} (h : j ≠ k) : upd f k x j = f j := if_neg h
theorem pk_sub {a b : Nat} (h : b ≤ a) : nI a - nI b = nI (a - b) := by
  obtain ⟨c, rfl⟩ : ∃ c, a = c + b := ⟨a - b, by omega⟩
  rw [← nI_add, Int32.add_sub_cancel, Nat.add_sub_cancel]
theorem pk_m1 (n : Nat) : nI (n + 1) + (-1) = nI n := by
  rw [← nI_1, Int32.add_assoc, show (1 : Int32) + (-1) = 0 from rfl, Int32.add_zero]
theorem pk_mul (a b : Nat) : nI a * nI b = nI (a * b) := (Int32.ofNat_mul a b).symm
theorem pk_div {a d : Nat} (ha : a < 2 ^ 31) (h0 : 0 < d) (hd : d < 2 ^ 31) : nI a / nI d = nI (a / d) := by
  apply Int32.toInt_inj.mp
  rw [lg_idiv_nonneg (by rw [nI_toInt ha]; omega) (by rw [nI_toInt hd]; omega), nI_toInt ha, nI_toInt hd, nI_toInt (Nat.lt_of_le_of_lt (Nat.div_le_self a d) ha)]
  first | rfl | exact (Int.natCast_ediv _ _).symm
theorem pk_rem {a d : Nat} (ha : a < 2 ^ 31) (h0 : 0 < d) (hd : d < 2 ^ 31) : nI a - nI a / nI d * nI d = nI (a % d) := by
  rw [pk_div ha h0 hd, pk_mul, pk_sub (Nat.div_mul_le_self a d)]
  exact congrArg nI (by have := Nat.div_add_mod' a d; omega)
theorem pk_ix (x : Int32) {n : Nat} (hn : n < 2 ^ 31) : x < 0 ∨ nI n ≤ x ∨ ∃ j : Nat, j < n ∧ x = nI j := by
  by_cases h : x < 0
  · exact Or.inl h
  · obtain ⟨j, hj, rfl⟩ := nI_of h
    by_cases h2 : j < n
    · exact Or.inr (Or.inr ⟨j, h2, rfl⟩)
    · exact Or.inr (Or.inl (nI_le (by omega) hj))
theorem pk_le {x y : Int32} {A B : Prop} (a b : Nat) (f : a ≤ b → A) (g : b < a → B) (hx : x = nI a := by rfl) (hy : y = nI b := by rfl) (ha : a < 2 ^ 31 := by omega) (hb : b < 2 ^ 31 := by omega) : (x ≤ y → A) ∧ (¬ x ≤ y → B) := by
  subst hx hy
  rw [nI_leI ha hb]
  exact ⟨f, fun z => g (by omega)⟩
theorem pk_lt {x y : Int32} {A B : Prop} (a b : Nat) (f : a < b → A) (g : b ≤ a → B) (hx : x = nI a := by rfl) (hy : y = nI b := by rfl) (ha : a < 2 ^ 31 := by omega) (hb : b < 2 ^ 31 := by omega) : (x < y → A) ∧ (¬ x < y → B) := by
  subst hx hy
  rw [nI_ltI ha hb]
  exact ⟨f, fun z => g (by omega)⟩
theorem pk_eq {x y : Int32} {A B : Prop} (a b : Nat) (f : a = b → A) (g : a ≠ b → B) (hx : x = nI a := by rfl) (hy : y = nI b := by rfl) (ha : a < 2 ^ 31 := by omega) (hb : b < 2 ^ 31 := by omega) : (x = y → A) ∧ (¬ x = y → B) := by
  subst hx hy
  rw [nI_eq ha hb]
  exact ⟨f, g⟩
theorem pk_in {x : Int32} (n N : Nat) (h : n < N) (hx : x = nI n := by rfl) (hN : N < 2 ^ 31 := by omega) : vp_in x N := by
  subst hx
  exact vp_in_nI h hN
theorem pk_cl {x : Int32} (n : Nat) (hx : x = nI n := by rfl) (h : n < 2 ^ 31 := by omega) : x.toNatClampNeg = n := by
  subst hx
  exact nI_clamp h
theorem pk_tn {n : Nat} (h : n < 2 ^ 32) : (nI n).toBitVec.toNat = n := Nat.mod_eq_of_lt h
theorem pk_and (x : Int32) {m : Int32} (k : Nat) (hm : m.toBitVec.toNat = 2 ^ k - 1) : x &&& m = nI (x.toBitVec.toNat % 2 ^ k) := by
  apply Int32.toBitVec_inj.mp
  apply BitVec.eq_of_toNat_eq
  rw [Int32.toBitVec_and, BitVec.toNat_and, hm, Nat.and_two_pow_sub_one_eq_mod]
  show _ = (BitVec.ofNat 32 _).toNat
  rw [BitVec.toNat_ofNat]
  exact (Nat.mod_eq_of_lt (Nat.lt_of_le_of_lt (Nat.mod_le _ _) x.toBitVec.isLt)).symm
theorem pk_andN {n : Nat} (h : n < 2 ^ 32) {m : Int32} (k : Nat) (hm : m.toBitVec.toNat = 2 ^ k - 1) : nI n &&& m = nI (n % 2 ^ k) := by
  rw [pk_and _ k hm, pk_tn h]
theorem pk_shr (a s : Int32) (k : Nat) (hs : (s.toBitVec.smod 32).toNat = k) : (a >>> s).toInt = a.toInt >>> k := by
  show (a.toBitVec.sshiftRight (s.toBitVec.smod 32).toNat).toInt = _
  rw [hs, BitVec.toInt_sshiftRight]
  rfl
theorem pk_shrN {n : Nat} (h : n < 2 ^ 31) (s : Int32) (k : Nat) (hs : (s.toBitVec.smod 32).toNat = k) : nI n >>> s = nI (n / 2 ^ k) := by
  apply Int32.toInt_inj.mp
  have h2 : n / 2 ^ k ≤ n := Nat.div_le_self _ _
  rw [pk_shr _ _ k hs, nI_toInt h, nI_toInt (by omega), Int.shiftRight_eq_div_pow]
  rfl
theorem s_l : ∀ n, n < 32 → ((nI n &&& 31).toBitVec.smod 32).toNat = n := by decide +kernel
theorem pc_and7 {n : Nat} (h : n < 2 ^ 31) : nI n &&& 7 = nI (n % 8) := pk_andN (by omega) 3 (by decide)
theorem pc_and15 {n : Nat} (h : n < 2 ^ 31) : nI n &&& 15 = nI (n % 16) := pk_andN (by omega) 4 (by decide)
theorem pc_s3 {n : Nat} (h : n < 2 ^ 31) : nI n >>> ((3 : Int32) &&& 31) = nI (n / 8) := pk_shrN h _ 3 (by decide)
theorem pc_s4 {n : Nat} (h : n < 2 ^ 31) : nI n >>> ((4 : Int32) &&& 31) = nI (n / 16) := pk_shrN h _ 4 (by decide)
theorem pc_s6 {n : Nat} (h : n < 2 ^ 31) : nI n >>> ((6 : Int32) &&& 31) = nI (n / 64) := pk_shrN h _ 6 (by decide)
theorem pc_hi {n : Nat} (h : n < 2 ^ 31) : (nI n >>> ((3 : Int32) &&& 31)) &&& 7 = nI (n / 8 % 8) := by
  rw [pc_s3 h, pc_and7 (by omega)]
theorem pc_sv {n s : Nat} (h : n < 2 ^ 31) (hs : s < 32) : nI n >>> (nI s &&& 31) = nI (n / 2 ^ s) := pk_shrN h _ s (s_l s hs)
theorem pc_d8 {n : Nat} (h : n < 2 ^ 31) : nI n / 8 = nI (n / 8) := pk_div (d := 8) h (by decide) (by decide)
theorem pc_d16 {n : Nat} (h : n < 2 ^ 31) : nI n / 16 = nI (n / 16) := pk_div (d := 16) h (by decide) (by decide)
theorem pc_d64 {n : Nat} (h : n < 2 ^ 31) : nI n / 64 = nI (n / 64) := pk_div (d := 64) h (by decide) (by decide)
theorem pc_r8 {n : Nat} (h : n < 2 ^ 31) : nI n - nI n / 8 * 8 = nI (n % 8) := pk_rem (d := 8) h (by decide) (by decide)
theorem pc_r16 {n : Nat} (h : n < 2 ^ 31) : nI n - nI n / 16 * 16 = nI (n % 16) := pk_rem (d := 16) h (by decide) (by decide)
theorem pc_r88 {n : Nat} (h : n < 2 ^ 31) : (nI n / 8) - (nI n / 8) / 8 * 8 = nI (n / 8 % 8) := by
  rw [pc_d8 h, pc_r8 (by omega)]
theorem pc_4s {n : Nat} (h : n ≤ 4) : 4 - nI n = nI (4 - n) := pk_sub (a := 4) h
theorem pc_10 : ¬ (1 : Int32) = 0 := by decide
theorem pc_64 : ¬ (64 : Int32) = 0 := by decide
theorem pc_16 : ¬ (16 : Int32) = 0 := by decide
theorem pc_8 : ¬ (8 : Int32) = 0 := by decide
theorem pc_m4 : (-4 : Int32) < 0 := by decide
theorem pc_m4' : ¬ (0 : Int32) ≤ -4 := by decide
theorem pc_1024 : (1024 : Int32) ≤ nI 1024 := by decide
theorem pc_n1024 {i : Nat} (h : i < 1024) : ¬ (1024 : Int32) ≤ nI i := nI_ge (b := 1024) h (by decide)
/-- a rule: prefix, goals, ports and action; the rules by their numbers -/
def pc_Bd (R : Nat → Nat × Nat × Nat) : Prop := ∀ j, j < 10 → (R j).1 < 80 ∧ (R j).2.1 < 64 ∧ (R j).2.2 < 256
def pc_St (R : Nat → Nat × Nat × Nat) (a b d : Nat → Int32) : Prop := ∀ j, j < 10 → a j = nI (R j).1 ∧ b j = nI (R j).2.1 ∧ d j = nI (R j).2.2
def pc_up (R : Nat → Nat × Nat × Nat) (i : Nat) (q : Nat × Nat × Nat) : Nat → Nat × Nat × Nat := fun j => if j = i then q else R j
/-- does rule r hold for packet p -/
def pc_P (q : Nat × Nat × Nat) (p : Nat) : Prop := p / 64 / 2 ^ (4 - q.1 / 16) = q.1 % 16 / 2 ^ (4 - q.1 / 16) ∧ q.2.1 % 8 ≤ p / 8 % 8 ∧ p / 8 % 8 ≤ q.2.1 / 8 % 8 ∧ q.2.2 % 8 ≤ p % 8 ∧ p % 8 ≤ q.2.2 / 8 % 8
noncomputable def pc_H (R : Nat → Nat × Nat × Nat) (p r : Nat) : Bool := @decide (pc_P (R r) p) (Classical.propDecidable _)
theorem pc_Ht {R : Nat → Nat × Nat × Nat} {p r : Nat} (h : pc_P (R r) p) : pc_H R p r = true := @decide_eq_true _ (Classical.propDecidable _) h
theorem pc_Hf {R : Nat → Nat × Nat × Nat} {p r : Nat} (h : ¬ pc_P (R r) p) : pc_H R p r = false := @decide_eq_false _ (Classical.propDecidable _) h
/-- the answer of a test -/
def pc_b (b : Bool) : Int32 := match b with | true => 1 | false => 0
/-- the first number, from i on, of n, at which g holds -/
def pc_F (g : Nat → Bool) : Nat → Nat → Int32
  | 0, _ => -4
  | n + 1, i => match g i with | true => nI i | false => pc_F g n (i + 1)
theorem pc_Ft {g : Nat → Bool} {n i : Nat} (h : g i = true) : pc_F g (n + 1) i = nI i := by rw [pc_F, h]
theorem pc_Ff {g : Nat → Bool} {n i : Nat} (h : g i = false) : pc_F g (n + 1) i = pc_F g n (i + 1) := by rw [pc_F, h]
theorem pc_Fr (g : Nat → Bool) : ∀ n i, pc_F g n i = -4 ∨ ∃ k, k < i + n ∧ pc_F g n i = nI k := by
  intro n
  induction n with
  | zero => intro i; exact Or.inl rfl
  | succ n ih =>
    intro i
    cases h : g i with
    | true => exact Or.inr ⟨i, by omega, pc_Ft h⟩
    | false =>
      rw [pc_Ff h]
      cases ih (i + 1) with
      | inl e => exact Or.inl e
      | inr e => obtain ⟨k, hk, e⟩ := e; exact Or.inr ⟨k, by omega, e⟩
/-- n steps of f, from number i on -/
def pc_I (f : Nat → Int32 → Int32) : Nat → Nat → Int32 → Int32
  | 0, _, x => x
  | n + 1, i, x => pc_I f n (i + 1) (f i x)
theorem pc_Is {f : Nat → Int32 → Int32} {n i : Nat} {x y : Int32} {post : Int32 → Prop} (e : f i x = y) (h : post (pc_I f (n + 1) i x)) : post (pc_I f n (i + 1) y) := by
  rw [← e]; exact h
end
section
theorem pc_loX {post : Int32 → Prop} {n : Nat} (h : n < 2 ^ 31) (hp : post (nI (n % 8))) : wpX_low post (nI n) := by
  unfold wpX_low
  rw [pc_and7 h]
  exact hp
theorem pc_hiX {post : Int32 → Prop} {n : Nat} (h : n < 2 ^ 31) (hp : post (nI (n / 8 % 8))) : wpX_high post (nI n) := by
  unfold wpX_high
  rw [pc_hi h]
  exact hp
theorem pc_pfX {post : Int32 → Prop} {q p : Nat} (hq : q < 80) (hp : p < 16) (h1 : p / 2 ^ (4 - q / 16) = q % 16 / 2 ^ (4 - q / 16) → post 1) (h0 : p / 2 ^ (4 - q / 16) ≠ q % 16 / 2 ^ (4 - q / 16) → post 0) : wpX_prefixHolds post (nI q) (nI p) := by
  refine nm_r (pc_and15 (by omega)) (nm_r (e' := nI (4 - q / 16)) (by rw [pc_s4 (by omega), pc_4s (by omega)]) ?_)
  exact pk_eq (p / 2 ^ (4 - q / 16)) (q % 16 / 2 ^ (4 - q / 16)) h1 h0 (pc_sv (by omega) (by omega)) (pc_sv (by omega) (by omega)) (Nat.lt_of_le_of_lt (Nat.div_le_self _ _) (by omega)) (Nat.lt_of_le_of_lt (Nat.div_le_self _ _) (by omega))
theorem pc_hoX {post : Int32 → Prop} {R : Nat → Nat × Nat × Nat} {f : Int32} {a b d : Nat → Int32} (S : pc_St R a b d) (B : pc_Bd R) {r p : Nat} (hr : r < 10) (hp : p < 1024) (h1 : pc_H R p r = true → post 1) (h0 : pc_H R p r = false → post 0) : wpX_holds post (f, a, b, d) (nI r) (nI p) := by
  obtain ⟨ea, eb, ed⟩ := S r hr
  obtain ⟨ba, bb, bd⟩ := B r hr
  have hi : vp_in (nI r) 10 := vp_in_nI hr (by decide)
  have ec : (nI r).toNatClampNeg = r := nI_clamp (by omega)
  have g0 : ¬ pc_P (R r) p → post 0 := fun n => h0 (pc_Hf n)
  have g1 : pc_P (R r) p → post 1 := fun n => h1 (pc_Ht n)
  unfold wpX_holds
  dsimp only
  rw [ec, ea, eb, ed]
  refine nm_r (pc_s6 (by omega)) (nm_r (pc_hi (by omega)) (nm_r (pc_and7 (by omega)) ⟨hi, nm_e ⟨hi, nm_e ⟨hi, ?_⟩⟩⟩))
  refine pc_pfX ba (by omega) (fun h1 => ?_) (fun n1 => br_t rfl (g0 (fun z => n1 z.1)))
  refine br_f pc_10 ?_
  refine pc_loX (by omega) ?_
  refine pk_lt (p / 8 % 8) ((R r).2.1 % 8) (fun n => g0 (fun z => absurd z.2.1 (Nat.not_le.mpr n))) (fun h2 => ?_)
  refine pc_hiX (by omega) ?_
  refine pk_lt ((R r).2.1 / 8 % 8) (p / 8 % 8) (fun n => g0 (fun z => absurd z.2.2.1 (Nat.not_le.mpr n))) (fun h3 => ?_)
  refine pc_loX (by omega) ?_
  refine pk_lt (p % 8) ((R r).2.2 % 8) (fun n => g0 (fun z => absurd z.2.2.2.1 (Nat.not_le.mpr n))) (fun h4 => ?_)
  refine pc_hiX (by omega) ?_
  exact pk_lt ((R r).2.2 / 8 % 8) (p % 8) (fun n => g0 (fun z => absurd z.2.2.2.2 (Nat.not_le.mpr n))) (fun h5 => g1 ⟨h1, h2, h3, h4, h5⟩)
theorem pc_hoY {post : Int32 → Prop} {R : Nat → Nat × Nat × Nat} {f : Int32} {a b d : Nat → Int32} (S : pc_St R a b d) (B : pc_Bd R) {r p : Nat} (hr : r < 10) (hp : p < 1024) (h1 : pc_H R p r = true → post 1) (h0 : pc_H R p r = false → post 0) : wpY_holds post (f, a, b, d) (nI r) (nI p) := by
  obtain ⟨ea, eb, ed⟩ := S r hr
  obtain ⟨ba, bb, bd⟩ := B r hr
  have hi : vp_in (nI r) 11 := vp_in_nI (by omega) (by decide)
  have ec : (nI r).toNatClampNeg = r := nI_clamp (by omega)
  have g0 : ¬ pc_P (R r) p → post 0 := fun n => h0 (pc_Hf n)
  have g1 : pc_P (R r) p → post 1 := fun n => h1 (pc_Ht n)
  unfold wpY_holds
  dsimp only
  rw [ec, ea, eb, ed]
  refine ⟨pc_64, nm_r (pc_d64 (by omega)) ⟨pc_8, pc_8, nm_r (pc_r88 (by omega)) ⟨pc_8, nm_r (pc_r8 (by omega)) ⟨hi, pc_16, nm_r (e' := nI (4 - (R r).1 / 16)) (by rw [pc_d16 (by omega), pc_4s (by omega)]) ⟨hi, pc_16, ?_⟩⟩⟩⟩⟩
  refine pk_eq (p / 64 / 2 ^ (4 - (R r).1 / 16)) ((R r).1 % 16 / 2 ^ (4 - (R r).1 / 16)) (fun h1 => ⟨hi, pc_8, ?_⟩) (fun n1 => g0 (fun z => n1 z.1)) (pc_sv (by omega) (by omega)) (by rw [pc_r16 (by omega), pc_sv (by omega) (by omega)]) (Nat.lt_of_le_of_lt (Nat.div_le_self _ _) (by omega)) (Nat.lt_of_le_of_lt (Nat.div_le_self _ _) (by omega))
  refine pk_lt (p / 8 % 8) ((R r).2.1 % 8) (fun n => g0 (fun z => absurd z.2.1 (Nat.not_le.mpr n))) (fun h2 => ⟨hi, pc_8, ?_⟩) rfl (pc_r8 (by omega))
  refine pk_lt ((R r).2.1 / 8) (p / 8 % 8) (fun n => g0 (fun z => absurd z.2.2.1 (by omega))) (fun h3 => ⟨hi, pc_8, ?_⟩) (pc_d8 (by omega)) rfl
  refine pk_lt (p % 8) ((R r).2.2 % 8) (fun n => g0 (fun z => absurd z.2.2.2.1 (Nat.not_le.mpr n))) (fun h4 => ⟨hi, pc_8, pc_8, ?_⟩) rfl (pc_r8 (by omega))
  exact pk_lt ((R r).2.2 / 8 % 8) (p % 8) (fun n => g0 (fun z => absurd z.2.2.2.2 (Nat.not_le.mpr n))) (fun h5 => g1 ⟨h1, h2, by omega, h4, h5⟩) (pc_r88 (by omega)) rfl
/-- the decider of packet p, and the next one behind r -/
noncomputable def pc_D (R : Nat → Nat × Nat × Nat) (c p : Nat) : Int32 := pc_F (pc_H R p) c 0
noncomputable def pc_E (R : Nat → Nat × Nat × Nat) (c r p : Nat) : Int32 := pc_F (pc_H R p) (c - (r + 1)) (r + 1)
theorem pc_Dr (R : Nat → Nat × Nat × Nat) (c p : Nat) : pc_D R c p = -4 ∨ ∃ k, k < c ∧ pc_D R c p = nI k := by
  cases pc_Fr (pc_H R p) c 0 with
  | inl e => exact Or.inl e
  | inr e => obtain ⟨k, hk, e⟩ := e; exact Or.inr ⟨k, by omega, e⟩
theorem pc_Er (R : Nat → Nat × Nat × Nat) {c r : Nat} (hr : r < c) (p : Nat) : pc_E R c r p = -4 ∨ ∃ k, k < c ∧ pc_E R c r p = nI k := by
  cases pc_Fr (pc_H R p) (c - (r + 1)) (r + 1) with
  | inl e => exact Or.inl e
  | inr e => obtain ⟨k, hk, e⟩ := e; exact Or.inr ⟨k, by omega, e⟩
theorem pc_fiX {post : Int32 → Prop} {R : Nat → Nat × Nat × Nat} {a b d : Nat → Int32} {c p : Nat} (S : pc_St R a b d) (B : pc_Bd R) (hc : c ≤ 10) (hp : p < 1024) : ∀ n i, i + n = c → post (pc_F (pc_H R p) n i) → wX_firstHolding_2 post (nI p) (nI c) a b d (n + 1) (nI i) := by
  intro n
  induction n with
  | zero => intro i hi h; exact br_t (nI_le (by omega) (by omega)) h
  | succ n ih =>
    intro i hi h
    refine br_f (nI_ge (by omega) (by omega)) (pc_hoX S B (by omega) hp (fun e => ?_) (fun e => ?_))
    · rw [pc_Ft e] at h; exact br_f pc_10 h
    · rw [pc_Ff e] at h; exact br_t rfl (nm_r (nI_1 i) (ih (i + 1) (by omega) h))
theorem pc_fiY {post : Int32 → Prop} {R : Nat → Nat × Nat × Nat} {a b d : Nat → Int32} {c p : Nat} (S : pc_St R a b d) (B : pc_Bd R) (hc : c ≤ 10) (hp : p < 1024) : ∀ n i, i + n = c → post (pc_F (pc_H R p) n i) → wY_first_2 post (nI p) (nI c) a b d (n + 1) (nI i) := by
  intro n
  induction n with
  | zero => intro i hi h; exact br_t (nI_le (by omega) (by omega)) h
  | succ n ih =>
    intro i hi h
    refine br_f (nI_ge (by omega) (by omega)) (pc_hoY S B (by omega) hp (fun e => ?_) (fun e => ?_))
    · rw [pc_Ft e] at h; exact br_f pc_10 h
    · rw [pc_Ff e] at h; exact br_t rfl (nm_r (nI_1 i) (ih (i + 1) (by omega) h))
theorem pc_f0X {post : Int32 → Prop} {R : Nat → Nat × Nat × Nat} {a b d : Nat → Int32} {c p : Nat} (S : pc_St R a b d) (B : pc_Bd R) (hc : c ≤ 10) (hp : p < 1024) (h : post (pc_D R c p)) : wpX_firstHolding post (nI c, a, b, d) (nI p) 0 := by
  have g := pc_fiX S B hc hp c 0 (by omega) h
  rw [nI_0] at g
  exact ⟨_, g⟩
theorem pc_f0Y {post : Int32 → Prop} {R : Nat → Nat × Nat × Nat} {a b d : Nat → Int32} {c p : Nat} (S : pc_St R a b d) (B : pc_Bd R) (hc : c ≤ 10) (hp : p < 1024) (h : post (pc_D R c p)) : wpY_first post (nI c, a, b, d) 0 (nI p) := by
  have g := pc_fiY S B hc hp c 0 (by omega) h
  rw [nI_0] at g
  exact ⟨_, g⟩
theorem pc_f1X {post : Int32 → Prop} {R : Nat → Nat × Nat × Nat} {a b d : Nat → Int32} {c p r : Nat} (S : pc_St R a b d) (B : pc_Bd R) (hc : c ≤ 10) (hp : p < 1024) (hr : r < c) (h : post (pc_E R c r p)) : wpX_firstHolding post (nI c, a, b, d) (nI p) (nI r + 1) := by
  have g := pc_fiX S B hc hp (c - (r + 1)) (r + 1) (by omega) h
  rw [nI_1]
  exact ⟨_, g⟩
theorem pc_f1Y {post : Int32 → Prop} {R : Nat → Nat × Nat × Nat} {a b d : Nat → Int32} {c p r : Nat} (S : pc_St R a b d) (B : pc_Bd R) (hc : c ≤ 10) (hp : p < 1024) (hr : r < c) (h : post (pc_E R c r p)) : wpY_first post (nI c, a, b, d) (nI r + 1) (nI p) := by
  have g := pc_fiY S B hc hp (c - (r + 1)) (r + 1) (by omega) h
  rw [nI_1]
  exact ⟨_, g⟩
theorem pc_irX1 {post : Int32 → Prop} {a b d : Nat → Int32} {c k : Nat} (hk : k < c) (hc : c ≤ 10) (h : post 1) : wpX_isRule post (nI c, a, b, d) (nI k) := br_f (nI_pos (by omega)) (br_f (nI_ge hk (by omega)) h)
theorem pc_irX0 {post : Int32 → Prop} {f : Int32} {a b d : Nat → Int32} {r : Int32} (hr : r < 0 ∨ f ≤ r) (h : post 0) : wpX_isRule post (f, a, b, d) r := by
  by_cases z : r < 0
  · exact br_t z h
  · exact br_f z (br_t (hr.resolve_left z) h)
theorem pc_irY1 {post : Int32 → Prop} {a b d : Nat → Int32} {c k : Nat} (hk : k < c) (hc : c ≤ 10) (h : post 1) : wpY_isRule post (nI c, a, b, d) (nI k) := br_f (nI_pos (by omega)) (br_f (nI_ge hk (by omega)) h)
theorem pc_irY0 {post : Int32 → Prop} {f : Int32} {a b d : Nat → Int32} {r : Int32} (hr : r < 0 ∨ f ≤ r) (h : post 0) : wpY_isRule post (f, a, b, d) r := by
  by_cases z : r < 0
  · exact br_t z h
  · exact br_f z (br_t (hr.resolve_left z) h)
theorem pc_ru (v : Int32) {c : Nat} (hc : c ≤ 10) : (v < 0 ∨ nI c ≤ v) ∨ ∃ k, k < c ∧ v = nI k := by
  cases pk_ix v (n := c) (by omega) with
  | inl h => exact Or.inl (Or.inl h)
  | inr h => cases h with
    | inl h => exact Or.inl (Or.inr h)
    | inr h => exact Or.inr h
theorem pc_pa (v : Int32) : (v < 0 ∨ nI 1024 ≤ v) ∨ ∃ k, k < 1024 ∧ v = nI k := by
  cases pk_ix v (n := 1024) (by omega) with
  | inl h => exact Or.inl (Or.inl h)
  | inr h => cases h with
    | inl h => exact Or.inl (Or.inr h)
    | inr h => exact Or.inr h
theorem pc_ipX1 {post : Int32 → Prop} {p : Nat} (hp : p < 1024) (h : post 1) : wpX_isPacket post (nI p) := br_f (nI_pos (by omega)) (br_f (pc_n1024 hp) h)
theorem pc_ipX0 {post : Int32 → Prop} {v : Int32} (hv : v < 0 ∨ nI 1024 ≤ v) (h : post 0) : wpX_isPacket post v := by
  by_cases z : v < 0
  · exact br_t z h
  · exact br_f z (br_t (hv.resolve_left z) h)
theorem pc_ipY1 {post : Int32 → Prop} {f : Int32} {a b d : Nat → Int32} {p : Nat} (hp : p < 1024) (h : post 1) : wpY_isPacket post (f, a, b, d) (nI p) := br_f (nI_pos (by omega)) (br_f (nI_nlt (a := 1023) (by omega) (by decide)) h)
theorem pc_ipY0 {post : Int32 → Prop} {f : Int32} {a b d : Nat → Int32} {v : Int32} (hv : v < 0 ∨ nI 1024 ≤ v) (h : post 0) : wpY_isPacket post (f, a, b, d) v := by
  by_cases z : v < 0
  · exact br_t z h
  · obtain ⟨j, hj, rfl⟩ := nI_of z
    have g := (nI_leI (a := 1024) (b := j) (by decide) hj).mp (hv.resolve_left z)
    exact br_f z (br_t (nI_lt (a := 1023) (b := j) (by omega) hj) h)
/-- the action of rule r, or NONE -/
def pc_A (R : Nat → Nat × Nat × Nat) (r : Int32) : Int32 := if r < 0 then -4 else nI ((R r.toNatClampNeg).2.2 / 64)
theorem pc_A0 (R : Nat → Nat × Nat × Nat) : pc_A R (-4) = -4 := if_pos pc_m4
theorem pc_A1 (R : Nat → Nat × Nat × Nat) {k : Nat} (hk : k < 10) : pc_A R (nI k) = nI ((R k).2.2 / 64) := by
  unfold pc_A
  rw [if_neg (nI_pos (by omega)), nI_clamp (by omega)]
theorem pc_acX {post : Int32 → Prop} {R : Nat → Nat × Nat × Nat} {a b d : Nat → Int32} {c : Nat} {r : Int32} (S : pc_St R a b d) (B : pc_Bd R) (hc : c ≤ 10) (hr : r = -4 ∨ ∃ k, k < c ∧ r = nI k) (h : post (pc_A R r)) : wpX_actionOrNone post (nI c, a, b, d) r := by
  unfold wpX_actionOrNone
  dsimp only
  cases hr with
  | inl e =>
    subst e
    rw [pc_A0] at h
    exact pc_irX0 (Or.inl pc_m4) (br_t rfl h)
  | inr e =>
    obtain ⟨k, hk, rfl⟩ := e
    rw [pc_A1 R (by omega)] at h
    refine pc_irX1 hk hc (br_f pc_10 ⟨vp_in_nI (by omega) (by decide), ?_⟩)
    have hb := (B k (by omega)).2.2
    rw [nI_clamp (by omega), (S k (by omega)).2.2, pc_s6 (by omega)]
    exact h
theorem pc_acY {post : Int32 → Prop} {R : Nat → Nat × Nat × Nat} {a b d : Nat → Int32} {c : Nat} {r f : Int32} (S : pc_St R a b d) (B : pc_Bd R) (hc : c ≤ 10) (hr : r = -4 ∨ ∃ k, k < c ∧ r = nI k) (h : post (pc_A R r)) : wpY_actionOf post (f, a, b, d) r := by
  unfold wpY_actionOf
  dsimp only
  cases hr with
  | inl e =>
    subst e
    rw [pc_A0] at h
    exact br_f pc_m4' h
  | inr e =>
    obtain ⟨k, hk, rfl⟩ := e
    rw [pc_A1 R (by omega)] at h
    refine br_t (nI_pos' (by omega)) ⟨vp_in_nI (by omega) (by decide), pc_64, ?_⟩
    have hb := (B k (by omega)).2.2
    rw [nI_clamp (by omega), (S k (by omega)).2.2, pc_d64 (by omega)]
    exact h
theorem pc_anY {post : Int32 → Prop} {R : Nat → Nat × Nat × Nat} {a b d : Nat → Int32} {c p : Nat} (S : pc_St R a b d) (B : pc_Bd R) (hc : c ≤ 10) (hp : p < 1024) (h : post (pc_A R (pc_D R c p))) : wpY_action post (nI c, a, b, d) (nI p) := by
  unfold wpY_action
  dsimp only
  exact pc_ipY1 hp (br_f pc_10 (pc_f0Y S B hc hp (pc_acY S B hc (pc_Dr R c p) h)))
end
section
noncomputable def pc_fH (R : Nat → Nat × Nat × Nat) (p r : Nat) (x : Int32) : Int32 := match pc_H R p r with | true => x ||| ((1 : Int32) <<< (nI r &&& 31)) | false => x
noncomputable def pc_fC (R : Nat → Nat × Nat × Nat) (p r : Nat) (x : Int32) : Int32 := match pc_H R p r with | true => x + 1 | false => x
noncomputable def pc_fR (R : Nat → Nat × Nat × Nat) (r p : Nat) (x : Int32) : Int32 := match pc_H R p r with | true => x + 1 | false => x
noncomputable def pc_fD (R : Nat → Nat × Nat × Nat) (c : Nat) (q : Int32) (p : Nat) (x : Int32) : Int32 := if pc_D R c p = q then x + 1 else x
noncomputable def pc_fA (R : Nat → Nat × Nat × Nat) (c : Nat) (q : Int32) (p : Nat) (x : Int32) : Int32 := if pc_A R (pc_D R c p) = q then x + 1 else x
noncomputable def pc_cd (R : Nat → Nat × Nat × Nat) (c : Nat) (q : Int32) : Int32 := pc_I (pc_fD R c q) 1024 0 0
noncomputable def pc_fI (R : Nat → Nat × Nat × Nat) (c r : Nat) (x : Int32) : Int32 := if pc_cd R c (nI r) = 0 then x + 1 else x
noncomputable def pc_fW (R : Nat → Nat × Nat × Nat) (c r p : Nat) (x : Int32) : Int32 := if pc_D R c p = nI r then (if pc_A R (pc_E R c r p) = pc_A R (nI r) then x else x + 1) else x
noncomputable def pc_cn (R : Nat → Nat × Nat × Nat) (c p : Nat) : Int32 := pc_I (pc_fC R p) c 0 0
noncomputable def pc_fM (R : Nat → Nat × Nat × Nat) (c p : Nat) (x : Int32) : Int32 := if pc_cn R c p ≤ x then x else pc_cn R c p
noncomputable def pc_N (R : Nat → Nat × Nat × Nat) (c : Nat) (q : Int32) : Nat → Nat → Int32
  | 0, _ => -4
  | n + 1, i => if pc_D R c i = q then nI i else pc_N R c q n (i + 1)
theorem pc_Nt {R : Nat → Nat × Nat × Nat} {c n i : Nat} {q : Int32} (h : pc_D R c i = q) : pc_N R c q (n + 1) i = nI i := by rw [pc_N, if_pos h]
theorem pc_Nf {R : Nat → Nat × Nat × Nat} {c n i : Nat} {q : Int32} (h : ¬ pc_D R c i = q) : pc_N R c q (n + 1) i = pc_N R c q n (i + 1) := by rw [pc_N, if_neg h]
theorem pc_fW0 {R : Nat → Nat × Nat × Nat} {c r p : Nat} {x : Int32} (h : ¬ pc_D R c p = nI r) : pc_fW R c r p x = x := if_neg h
theorem pc_fW1 {R : Nat → Nat × Nat × Nat} {c r p : Nat} {x : Int32} (h : pc_D R c p = nI r) (g : pc_A R (pc_E R c r p) = pc_A R (nI r)) : pc_fW R c r p x = x := (if_pos h).trans (if_pos g)
theorem pc_fW2 {R : Nat → Nat × Nat × Nat} {c r p : Nat} {x : Int32} (h : pc_D R c p = nI r) (g : ¬ pc_A R (pc_E R c r p) = pc_A R (nI r)) : pc_fW R c r p x = x + 1 := (if_pos h).trans (if_neg g)
theorem pc_hgX {post : Int32 → Prop} {R : Nat → Nat × Nat × Nat} {a b d : Nat → Int32} {c : Nat} (S : pc_St R a b d) (B : pc_Bd R) (hc : c ≤ 10) {p : Nat} (hp : p < 1024) : ∀ n i x, i + n = c → post (pc_I (pc_fH R p) n i x) → wX_holding_13 post (nI p) (nI c) a b d (n + 1) x (nI i) := by
  intro n
  induction n with
  | zero =>
    intro i x hi h
    exact br_t (nI_le (by omega) (by omega)) h
  | succ n ih =>
    intro i x hi h
    exact br_f (nI_ge (by omega) (by omega)) (pc_hoX S B (by omega) hp (fun e => br_f pc_10 (nm_e (nm_r (nI_1 i) (ih _ _ (by omega) (pc_Is (by simp only [pc_fH, e]) h))))) (fun e => br_t rfl (nm_r (nI_1 i) (ih _ _ (by omega) (pc_Is (by simp only [pc_fH, e]) h)))))
theorem pc_reX {post : Int32 → Prop} {R : Nat → Nat × Nat × Nat} {a b d : Nat → Int32} {c : Nat} (S : pc_St R a b d) (B : pc_Bd R) (hc : c ≤ 10) {r : Nat} (hr : r < c) : ∀ n i x, i + n = 1024 → post (pc_I (pc_fR R r) n i x) → wX_reach_15 post (nI r) (nI c) a b d (n + 1) x (nI i) := by
  intro n
  induction n with
  | zero =>
    intro i x hi h
    obtain rfl : i = 1024 := by omega
    exact br_t pc_1024 h
  | succ n ih =>
    intro i x hi h
    exact br_f (pc_n1024 (by omega)) (pc_hoX S B (by omega) (by omega) (fun e => br_f pc_10 (nm_e (nm_r (nI_1 i) (ih _ _ (by omega) (pc_Is (by simp only [pc_fR, e]) h))))) (fun e => br_t rfl (nm_r (nI_1 i) (ih _ _ (by omega) (pc_Is (by simp only [pc_fR, e]) h)))))
theorem pc_cdX {post : Int32 → Prop} {R : Nat → Nat × Nat × Nat} {a b d : Nat → Int32} {c : Nat} (S : pc_St R a b d) (B : pc_Bd R) (hc : c ≤ 10) (q : Int32) : ∀ n i x, i + n = 1024 → post (pc_I (pc_fD R c q) n i x) → wX_countDecidedBy_4 post q (nI c) a b d (n + 1) x (nI i) := by
  intro n
  induction n with
  | zero =>
    intro i x hi h
    obtain rfl : i = 1024 := by omega
    exact br_t pc_1024 h
  | succ n ih =>
    intro i x hi h
    exact br_f (pc_n1024 (by omega)) (pc_f0X S B hc (by omega) (br_c (fun e => nm_e (nm_r (nI_1 i) (ih _ _ (by omega) (pc_Is (if_pos e) h)))) (fun e => nm_r (nI_1 i) (ih _ _ (by omega) (pc_Is (if_neg e) h)))))
theorem pc_atX {post : Int32 → Prop} {R : Nat → Nat × Nat × Nat} {a b d : Nat → Int32} {c : Nat} (S : pc_St R a b d) (B : pc_Bd R) (hc : c ≤ 10) (q : Int32) : ∀ n i x, i + n = 1024 → post (pc_I (pc_fA R c q) n i x) → wX_acted_15 post q (nI c) a b d (n + 1) x (nI i) := by
  intro n
  induction n with
  | zero =>
    intro i x hi h
    obtain rfl : i = 1024 := by omega
    exact br_t pc_1024 h
  | succ n ih =>
    intro i x hi h
    exact br_f (pc_n1024 (by omega)) (pc_f0X S B hc (by omega) (pc_acX S B hc (pc_Dr R c i) (br_c (fun e => nm_e (nm_r (nI_1 i) (ih _ _ (by omega) (pc_Is (if_pos e) h)))) (fun e => nm_r (nI_1 i) (ih _ _ (by omega) (pc_Is (if_neg e) h))))))
theorem pc_cpdX {post : Int32 → Prop} {R : Nat → Nat × Nat × Nat} {a b d : Nat → Int32} {c : Nat} (S : pc_St R a b d) (B : pc_Bd R) (hc : c ≤ 10) (q : Int32) (h : post (pc_cd R c q)) : wpX_countDecidedBy post (nI c, a, b, d) q := by
  have g := pc_cdX S B hc q 1024 0 0 (by omega) h
  rw [nI_0] at g
  exact ⟨_, g⟩
theorem pc_idX {post : Int32 → Prop} {R : Nat → Nat × Nat × Nat} {a b d : Nat → Int32} {c : Nat} (S : pc_St R a b d) (B : pc_Bd R) (hc : c ≤ 10) : ∀ n i x, i + n = c → post (pc_I (pc_fI R c) n i x) → wX_idle_4 post (nI c) a b d (n + 1) x (nI i) := by
  intro n
  induction n with
  | zero =>
    intro i x hi h
    exact br_t (nI_le (by omega) (by omega)) h
  | succ n ih =>
    intro i x hi h
    exact br_f (nI_ge (by omega) (by omega)) (pc_cpdX S B hc _ (br_c (fun e => nm_e (nm_r (nI_1 i) (ih _ _ (by omega) (pc_Is (if_pos e) h)))) (fun e => nm_r (nI_1 i) (ih _ _ (by omega) (pc_Is (if_neg e) h)))))
theorem pc_chX {post : Int32 → Prop} {R : Nat → Nat × Nat × Nat} {a b d : Nat → Int32} {c : Nat} (S : pc_St R a b d) (B : pc_Bd R) (hc : c ≤ 10) {p : Nat} (hp : p < 1024) : ∀ n i x, i + n = c → post (pc_I (pc_fC R p) n i x) → wX_countHolding_4 post (nI p) (nI c) a b d (n + 1) x (nI i) := by
  intro n
  induction n with
  | zero =>
    intro i x hi h
    exact br_t (nI_le (by omega) (by omega)) h
  | succ n ih =>
    intro i x hi h
    exact br_f (nI_ge (by omega) (by omega)) (pc_hoX S B (by omega) hp (fun e => br_f pc_10 (nm_e (nm_r (nI_1 i) (ih _ _ (by omega) (pc_Is (by simp only [pc_fC, e]) h))))) (fun e => br_t rfl (nm_r (nI_1 i) (ih _ _ (by omega) (pc_Is (by simp only [pc_fC, e]) h)))))
theorem pc_cnX {post : Int32 → Prop} {R : Nat → Nat × Nat × Nat} {a b d : Nat → Int32} {c : Nat} (S : pc_St R a b d) (B : pc_Bd R) (hc : c ≤ 10) {p : Nat} (hp : p < 1024) (h : post (pc_cn R c p)) : wpX_countHolding post (nI c, a, b, d) (nI p) := by
  have g := pc_chX S B hc hp c 0 0 (by omega) h
  rw [nI_0] at g
  exact ⟨_, g⟩
theorem pc_deX {post : Int32 → Prop} {R : Nat → Nat × Nat × Nat} {a b d : Nat → Int32} {c : Nat} (S : pc_St R a b d) (B : pc_Bd R) (hc : c ≤ 10) : ∀ n i x, i + n = 1024 → post (pc_I (pc_fM R c) n i x) → wX_deepest_4 post (nI c) a b d (n + 1) x (nI i) := by
  intro n
  induction n with
  | zero =>
    intro i x hi h
    obtain rfl : i = 1024 := by omega
    exact br_t pc_1024 h
  | succ n ih =>
    intro i x hi h
    exact br_f (pc_n1024 (by omega)) (pc_cnX S B hc (by omega) (br_c (fun e => nm_r (nI_1 i) (ih _ _ (by omega) (pc_Is (if_pos e) h))) (fun e => nm_r (nI_1 i) (ih _ _ (by omega) (pc_Is (if_neg e) h)))))
theorem pc_weX {post : Int32 → Prop} {R : Nat → Nat × Nat × Nat} {a b d : Nat → Int32} {c : Nat} (S : pc_St R a b d) (B : pc_Bd R) (hc : c ≤ 10) {r : Nat} (hr : r < c) : ∀ n i x, i + n = 1024 → post (pc_I (pc_fW R c r) n i x) → wX_weight_15 post (nI r) (nI c) a b d (n + 1) x (nI i) := by
  intro n
  induction n with
  | zero =>
    intro i x hi h
    obtain rfl : i = 1024 := by omega
    exact br_t pc_1024 h
  | succ n ih =>
    intro i x hi h
    exact br_f (pc_n1024 (by omega)) (pc_f0X S B hc (by omega) (br_c (fun e => pc_f1X S B hc (by omega) hr (pc_acX S B hc (pc_Er R hr i) (pc_acX S B hc (Or.inr ⟨r, hr, rfl⟩) (br_c (fun g => nm_r (nI_1 i) (ih _ _ (by omega) (pc_Is (pc_fW1 e g) h))) (fun g => nm_e (nm_r (nI_1 i) (ih _ _ (by omega) (pc_Is (pc_fW2 e g) h)))))))) (fun e => nm_r (nI_1 i) (ih _ _ (by omega) (pc_Is (pc_fW0 e) h)))))
theorem pc_hgY {post : Int32 → Prop} {R : Nat → Nat × Nat × Nat} {a b d : Nat → Int32} {c : Nat} (S : pc_St R a b d) (B : pc_Bd R) (hc : c ≤ 10) {p : Nat} (hp : p < 1024) : ∀ n i x, i + n = c → post (pc_I (pc_fH R p) n i x) → wY_holding_14 post (nI p) (nI c) a b d (n + 1) x (nI i) := by
  intro n
  induction n with
  | zero =>
    intro i x hi h
    exact br_t (nI_le (by omega) (by omega)) h
  | succ n ih =>
    intro i x hi h
    exact br_f (nI_ge (by omega) (by omega)) (pc_hoY S B (by omega) hp (fun e => br_f pc_10 (nm_e (nm_r (nI_1 i) (ih _ _ (by omega) (pc_Is (by simp only [pc_fH, e]) h))))) (fun e => br_t rfl (nm_r (nI_1 i) (ih _ _ (by omega) (pc_Is (by simp only [pc_fH, e]) h)))))
theorem pc_reY {post : Int32 → Prop} {R : Nat → Nat × Nat × Nat} {a b d : Nat → Int32} {c : Nat} (S : pc_St R a b d) (B : pc_Bd R) (hc : c ≤ 10) {r : Nat} (hr : r < c) : ∀ n i x, i + n = 1024 → post (pc_I (pc_fR R r) n i x) → wY_reach_15 post (nI r) (nI c) a b d (n + 1) x (nI i) := by
  intro n
  induction n with
  | zero =>
    intro i x hi h
    obtain rfl : i = 1024 := by omega
    exact br_t pc_1024 h
  | succ n ih =>
    intro i x hi h
    exact br_f (pc_n1024 (by omega)) (pc_hoY S B (by omega) (by omega) (fun e => br_f pc_10 (nm_e (nm_r (nI_1 i) (ih _ _ (by omega) (pc_Is (by simp only [pc_fR, e]) h))))) (fun e => br_t rfl (nm_r (nI_1 i) (ih _ _ (by omega) (pc_Is (by simp only [pc_fR, e]) h)))))
theorem pc_cdY {post : Int32 → Prop} {R : Nat → Nat × Nat × Nat} {a b d : Nat → Int32} {c : Nat} (S : pc_St R a b d) (B : pc_Bd R) (hc : c ≤ 10) (q : Int32) : ∀ n i x, i + n = 1024 → post (pc_I (pc_fD R c q) n i x) → wY_decided_15 post q (nI c) a b d (n + 1) x (nI i) := by
  intro n
  induction n with
  | zero =>
    intro i x hi h
    obtain rfl : i = 1024 := by omega
    exact br_t pc_1024 h
  | succ n ih =>
    intro i x hi h
    exact br_f (pc_n1024 (by omega)) (pc_f0Y S B hc (by omega) (br_c (fun e => nm_e (nm_r (nI_1 i) (ih _ _ (by omega) (pc_Is (if_pos e) h)))) (fun e => nm_r (nI_1 i) (ih _ _ (by omega) (pc_Is (if_neg e) h)))))
theorem pc_udY {post : Int32 → Prop} {R : Nat → Nat × Nat × Nat} {a b d : Nat → Int32} {c : Nat} (S : pc_St R a b d) (B : pc_Bd R) (hc : c ≤ 10) : ∀ n i x, i + n = 1024 → post (pc_I (pc_fD R c (-4)) n i x) → wY_undecided_4 post (nI c) a b d (n + 1) x (nI i) := by
  intro n
  induction n with
  | zero =>
    intro i x hi h
    obtain rfl : i = 1024 := by omega
    exact br_t pc_1024 h
  | succ n ih =>
    intro i x hi h
    exact br_f (pc_n1024 (by omega)) (pc_f0Y S B hc (by omega) (br_c (fun e => nm_e (nm_r (nI_1 i) (ih _ _ (by omega) (pc_Is (if_pos e) h)))) (fun e => nm_r (nI_1 i) (ih _ _ (by omega) (pc_Is (if_neg e) h)))))
theorem pc_atY {post : Int32 → Prop} {R : Nat → Nat × Nat × Nat} {a b d : Nat → Int32} {c : Nat} (S : pc_St R a b d) (B : pc_Bd R) (hc : c ≤ 10) (q : Int32) : ∀ n i x, i + n = 1024 → post (pc_I (pc_fA R c q) n i x) → wY_acted_15 post q (nI c) a b d (n + 1) x (nI i) := by
  intro n
  induction n with
  | zero =>
    intro i x hi h
    obtain rfl : i = 1024 := by omega
    exact br_t pc_1024 h
  | succ n ih =>
    intro i x hi h
    exact br_f (pc_n1024 (by omega)) (pc_anY S B hc (by omega) (br_c (fun e => nm_e (nm_r (nI_1 i) (ih _ _ (by omega) (pc_Is (if_pos e) h)))) (fun e => nm_r (nI_1 i) (ih _ _ (by omega) (pc_Is (if_neg e) h)))))
theorem pc_cpdY {post : Int32 → Prop} {R : Nat → Nat × Nat × Nat} {a b d : Nat → Int32} {c : Nat} (S : pc_St R a b d) (B : pc_Bd R) (hc : c ≤ 10) {r : Nat} (hr : r < c) (h : post (pc_cd R c (nI r))) : wpY_decided post (nI c, a, b, d) (nI r) := by
  unfold wpY_decided
  dsimp only
  have g := pc_cdY S B hc (nI r) 1024 0 0 (by omega) h
  rw [nI_0] at g
  exact pc_irY1 hr hc (br_f pc_10 ⟨_, g⟩)
theorem pc_idY {post : Int32 → Prop} {R : Nat → Nat × Nat × Nat} {a b d : Nat → Int32} {c : Nat} (S : pc_St R a b d) (B : pc_Bd R) (hc : c ≤ 10) : ∀ n i x, i + n = c → post (pc_I (pc_fI R c) n i x) → wY_idle_4 post (nI c) a b d (n + 1) x (nI i) := by
  intro n
  induction n with
  | zero =>
    intro i x hi h
    exact br_t (nI_le (by omega) (by omega)) h
  | succ n ih =>
    intro i x hi h
    exact br_f (nI_ge (by omega) (by omega)) (pc_cpdY S B hc (by omega) (br_c (fun e => nm_e (nm_r (nI_1 i) (ih _ _ (by omega) (pc_Is (if_pos e) h)))) (fun e => nm_r (nI_1 i) (ih _ _ (by omega) (pc_Is (if_neg e) h)))))
theorem pc_dnY {post : Int32 → Prop} {J : Int32 → Int32 → Prop} {R : Nat → Nat × Nat × Nat} {a b d : Nat → Int32} {c p : Nat} {y : Int32} (S : pc_St R a b d) (B : pc_Bd R) (hc : c ≤ 10) (hp : p < 1024) : ∀ n i x, i + n = c → J (if pc_I (pc_fC R p) n i x ≤ y then y else pc_I (pc_fC R p) n i x) (nI (p + 1)) → wY_deepest_16 post J y (nI p) (nI c) a b d (n + 1) x (nI i) := by
  intro n
  induction n with
  | zero =>
    intro i x hi h
    refine br_t (nI_le (by omega) (by omega)) (br_c (fun e => nm_r (nI_1 p) ?_) (fun e => nm_r (nI_1 p) ?_))
    · rw [pc_I, if_pos e] at h; exact h
    · rw [pc_I, if_neg e] at h; exact h
  | succ n ih =>
    intro i x hi h
    rw [pc_I] at h
    refine br_f (nI_ge (by omega) (by omega)) (pc_hoY S B (by omega) hp (fun e => br_f pc_10 (nm_e (nm_r (nI_1 i) (ih _ _ (by omega) ?_)))) (fun e => br_t rfl (nm_r (nI_1 i) (ih _ _ (by omega) ?_))))
    · rw [show pc_fC R p i x = x + 1 from by simp only [pc_fC, e]] at h; exact h
    · rw [show pc_fC R p i x = x from by simp only [pc_fC, e]] at h; exact h
theorem pc_deY {post : Int32 → Prop} {R : Nat → Nat × Nat × Nat} {a b d : Nat → Int32} {c : Nat} (S : pc_St R a b d) (B : pc_Bd R) (hc : c ≤ 10) : ∀ n i x, i + n = 1024 → post (pc_I (pc_fM R c) n i x) → wY_deepest_4 post (nI c) a b d (n + 1) x (nI i) := by
  intro n
  induction n with
  | zero =>
    intro i x hi h
    obtain rfl : i = 1024 := by omega
    exact br_t pc_1024 h
  | succ n ih =>
    intro i x hi h
    have g := pc_dnY (post := post) (J := wY_deepest_4 post (nI c) a b d (n + 1)) (y := x) S B hc (show i < 1024 by omega) c 0 0 (by omega) (ih (i + 1) _ (by omega) h)
    rw [nI_0] at g
    exact br_f (pc_n1024 (by omega)) ⟨_, g⟩
theorem pc_weY {post : Int32 → Prop} {R : Nat → Nat × Nat × Nat} {a b d : Nat → Int32} {c : Nat} (S : pc_St R a b d) (B : pc_Bd R) (hc : c ≤ 10) {r : Nat} (hr : r < c) : ∀ n i x, i + n = 1024 → post (pc_I (pc_fW R c r) n i x) → wY_weight_15 post (nI r) (nI c) a b d (n + 1) x (nI i) := by
  intro n
  induction n with
  | zero =>
    intro i x hi h
    obtain rfl : i = 1024 := by omega
    exact br_t pc_1024 h
  | succ n ih =>
    intro i x hi h
    exact br_f (pc_n1024 (by omega)) (pc_f0Y S B hc (by omega) (br_c (fun e => pc_f1Y S B hc (by omega) hr (pc_acY S B hc (pc_Er R hr i) (pc_acY S B hc (Or.inr ⟨r, hr, rfl⟩) (br_c (fun g => nm_r (nI_1 i) (ih _ _ (by omega) (pc_Is (pc_fW1 e g) h))) (fun g => nm_e (nm_r (nI_1 i) (ih _ _ (by omega) (pc_Is (pc_fW2 e g) h)))))))) (fun e => nm_r (nI_1 i) (ih _ _ (by omega) (pc_Is (pc_fW0 e) h)))))
theorem pc_neX {post : Int32 → Prop} {R : Nat → Nat × Nat × Nat} {a b d : Nat → Int32} {c : Nat} (S : pc_St R a b d) (B : pc_Bd R) (hc : c ≤ 10) {r : Nat} (hr : r < c) : ∀ n i, n = 1024 - i → i < 2 ^ 31 → post (pc_N R c (nI r) n i) → wX_next_24 post (nI r) (nI c) a b d (n + 1) (nI i) := by
  intro n
  induction n with
  | zero =>
    intro i hi hb h
    exact br_t (nI_le (a := 1024) (by omega) hb) h
  | succ n ih =>
    intro i hi hb h
    exact br_f (pc_n1024 (by omega)) (pc_f0X S B hc (by omega) (br_c (fun e => by rw [pc_Nt e] at h; exact h) (fun e => by rw [pc_Nf e] at h; exact nm_r (nI_1 i) (ih _ (by omega) (by omega) h))))
theorem pc_neY {post : Int32 → Prop} {R : Nat → Nat × Nat × Nat} {a b d : Nat → Int32} {c : Nat} (S : pc_St R a b d) (B : pc_Bd R) (hc : c ≤ 10) {r : Nat} (hr : r < c) : ∀ n i, n = 1024 - i → i < 2 ^ 31 → post (pc_N R c (nI r) n i) → wY_next_10 post (nI r) (nI c) a b d (n + 1) (nI i) := by
  intro n
  induction n with
  | zero =>
    intro i hi hb h
    exact br_t (nI_le (a := 1024) (by omega) hb) h
  | succ n ih =>
    intro i hi hb h
    exact br_f (pc_n1024 (by omega)) (pc_irY1 hr hc (br_f pc_10 (pc_f0Y S B hc (by omega) (br_c (fun e => by rw [pc_Nt e] at h; exact h) (fun e => by rw [pc_Nf e] at h; exact nm_r (nI_1 i) (ih _ (by omega) (by omega) h))))))
end
section
theorem pc_us {R : Nat → Nat × Nat × Nat} {j : Nat} {q : Nat × Nat × Nat} : pc_up R j q j = q := if_pos rfl
theorem pc_un {R : Nat → Nat × Nat × Nat} {j k : Nat} {q : Nat × Nat × Nat} (h : k ≠ j) : pc_up R j q k = R k := if_neg h
theorem pc_Bu {R : Nat → Nat × Nat × Nat} {j : Nat} {q : Nat × Nat × Nat} (B : pc_Bd R) (h : q.1 < 80 ∧ q.2.1 < 64 ∧ q.2.2 < 256) : pc_Bd (pc_up R j q) := by
  intro k hk
  by_cases e : k = j
  · subst e; rw [pc_us]; exact h
  · rw [pc_un e]; exact B k hk
theorem pc_Su {R : Nat → Nat × Nat × Nat} {a b d : Nat → Int32} {j : Nat} {q : Nat × Nat × Nat} {x y z : Int32} (S : pc_St R a b d) (h1 : x = nI q.1) (h2 : y = nI q.2.1) (h3 : z = nI q.2.2) : pc_St (pc_up R j q) (upd a j x) (upd b j y) (upd d j z) := by
  intro k hk
  by_cases e : k = j
  · subst e; rw [pc_us, pk_us, pk_us, pk_us]; exact ⟨h1, h2, h3⟩
  · rw [pc_un e, pk_un e, pk_un e, pk_un e]; exact S k hk
/-- m rules from t on, each one place up; then m rules behind i, each one place down -/
def pc_sh (t : Nat) : Nat → (Nat → Nat × Nat × Nat) → Nat → Nat × Nat × Nat
  | 0, R => R
  | m + 1, R => pc_sh t m (pc_up R (t + m + 1) (R (t + m)))
def pc_rm : Nat → Nat → (Nat → Nat × Nat × Nat) → Nat → Nat × Nat × Nat
  | 0, _, R => R
  | m + 1, i, R => pc_rm m (i + 1) (pc_up R i (R (i + 1)))
theorem pc_Bsh (t : Nat) : ∀ (m : Nat) (R : Nat → Nat × Nat × Nat), t + m ≤ 10 → pc_Bd R → pc_Bd (pc_sh t m R) := by
  intro m
  induction m with
  | zero => intro R _ B; exact B
  | succ m ih => intro R h B; exact ih _ (by omega) (pc_Bu B (B (t + m) (by omega)))
theorem pc_Brm : ∀ (m i : Nat) (R : Nat → Nat × Nat × Nat), i + m < 10 → pc_Bd R → pc_Bd (pc_rm m i R) := by
  intro m
  induction m with
  | zero => intro i R _ B; exact B
  | succ m ih => intro i R h B; exact ih _ _ (by omega) (pc_Bu B (B (i + 1) (by omega)))
theorem pc_cpX {post : SX → Prop} {R : Nat → Nat × Nat × Nat} {f x y : Int32} {a b d : Nat → Int32} (i j : Nat) (S : pc_St R a b d) (hi : i < 10) (hj : j < 10) (ex : x = nI i) (ey : y = nI j) (h : ∀ a' b' d', pc_St (pc_up R j (R i)) a' b' d' → post (f, a', b', d')) : wpX_copyRule post (f, a, b, d) x y := by
  subst ex ey
  have vi : vp_in (nI i) 10 := vp_in_nI (by omega) (by decide)
  have vj : vp_in (nI j) 10 := vp_in_nI (by omega) (by decide)
  unfold wpX_copyRule
  dsimp only
  rw [nI_clamp (n := i) (by omega), nI_clamp (n := j) (by omega)]
  obtain ⟨e1, e2, e3⟩ := S i hi
  exact ⟨vi, vj, nm_e ⟨vi, vj, nm_e ⟨vi, vj, nm_e (h _ _ _ (pc_Su S e1 e2 e3))⟩⟩⟩
theorem pc_cpY {post : SY → Prop} {R : Nat → Nat × Nat × Nat} {f x y : Int32} {a b d : Nat → Int32} (i j : Nat) (S : pc_St R a b d) (hi : i < 10) (hj : j < 10) (ex : x = nI i) (ey : y = nI j) (h : ∀ a' b' d', pc_St (pc_up R j (R i)) a' b' d' → post (f, a', b', d')) : wpY_copy post (f, a, b, d) x y := by
  subst ex ey
  have vi : vp_in (nI i) 11 := vp_in_nI (by omega) (by decide)
  have vj : vp_in (nI j) 11 := vp_in_nI (by omega) (by decide)
  unfold wpY_copy
  dsimp only
  rw [nI_clamp (n := i) (by omega), nI_clamp (n := j) (by omega)]
  obtain ⟨e1, e2, e3⟩ := S i hi
  exact ⟨vi, vj, nm_e ⟨vi, vj, nm_e ⟨vi, vj, nm_e (h _ _ _ (pc_Su S e1 e2 e3))⟩⟩⟩
theorem pc_isX {post : Int32 → SX → Prop} {t c p g q : Nat} (hc : c < 10) : ∀ (m : Nat) (R : Nat → Nat × Nat × Nat) (a b d : Nat → Int32), pc_St R a b d → t + m ≤ c → (∀ a' b' d', pc_St (pc_up (pc_sh t m R) t (p, g, q)) a' b' d' → post (nI (c + 1)) (nI (c + 1), a', b', d')) → wX_insert_95 post (nI t) (nI p) (nI g) (nI q) (m + 1) (nI (t + m)) (nI c) a b d := by
  intro m
  induction m with
  | zero =>
    intro R a b d S hm h
    have v : vp_in (nI t) 10 := vp_in_nI (by omega) (by decide)
    have g := h _ _ _ (pc_Su (j := t) S (q := (p, g, q)) rfl rfl rfl)
    refine br_t (nI_le (by omega) (by omega)) ⟨v, nm_e ⟨v, nm_e ⟨v, nm_e (nm_r (nI_1 c) ?_)⟩⟩⟩
    rw [nI_clamp (n := t) (by omega)]
    exact g
  | succ m ih =>
    intro R a b d S hm h
    exact br_f (nI_ge (by omega) (by omega)) (pc_cpX (t + m) (t + m + 1) S (by omega) (by omega) (nI_pred (t + m)) rfl (fun a' b' d' S' => nm_r (pk_m1 (t + m)) (ih _ _ _ _ S' (by omega) h)))
theorem pc_isY {post : Int32 → SY → Prop} {t c p g q : Nat} (hc : c < 10) : ∀ (m : Nat) (R : Nat → Nat × Nat × Nat) (a b d : Nat → Int32), pc_St R a b d → t + m ≤ c → (∀ a' b' d', pc_St (pc_up (pc_sh t m R) t (p, g, q)) a' b' d' → post (nI (c + 1)) (nI (c + 1), a', b', d')) → wY_insert_94 post (nI t) (nI p) (nI g) (nI q) (m + 1) (nI (t + m)) (nI c) a b d := by
  intro m
  induction m with
  | zero =>
    intro R a b d S hm h
    have v : vp_in (nI t) 11 := vp_in_nI (by omega) (by decide)
    have g := h _ _ _ (pc_Su (j := t) S (q := (p, g, q)) rfl rfl rfl)
    refine br_t (nI_le (by omega) (by omega)) ⟨v, nm_e ⟨v, nm_e ⟨v, nm_e (nm_r (nI_1 c) ?_)⟩⟩⟩
    rw [nI_clamp (n := t) (by omega)]
    exact g
  | succ m ih =>
    intro R a b d S hm h
    exact br_f (nI_ge (by omega) (by omega)) (pc_cpY (t + m) (t + m + 1) S (by omega) (by omega) (nI_pred (t + m)) rfl (fun a' b' d' S' => nm_r (pk_m1 (t + m)) (ih _ _ _ _ S' (by omega) h)))
theorem pc_rmX {post : Int32 → SX → Prop} {e : Nat} (he : e < 10) : ∀ (m i : Nat) (R : Nat → Nat × Nat × Nat) (a b d : Nat → Int32), pc_St R a b d → i + m = e → (∀ a' b' d', pc_St (pc_rm m i R) a' b' d' → post (nI e) (nI e, a', b', d')) → wX_remove_13 post (m + 1) (nI i) (nI (e + 1)) a b d := by
  intro m
  induction m with
  | zero =>
    intro i R a b d S hi h
    exact br_t (by rw [nI_pred]; exact nI_le (by omega) (by omega)) (nm_r (nI_pred e) (h _ _ _ S))
  | succ m ih =>
    intro i R a b d S hi h
    exact br_f (by rw [nI_pred]; exact nI_ge (by omega) (by omega)) (pc_cpX (i + 1) i S (by omega) (by omega) (nI_1 i) rfl (fun a' b' d' S' => nm_r (nI_1 i) (ih _ _ _ _ _ S' (by omega) h)))
theorem pc_rmY {post : Int32 → SY → Prop} {e : Nat} (he : e < 10) : ∀ (m i : Nat) (R : Nat → Nat × Nat × Nat) (a b d : Nat → Int32), pc_St R a b d → i + m = e → (∀ a' b' d', pc_St (pc_rm m i R) a' b' d' → post (nI e) (nI e, a', b', d')) → wY_remove_23 post (m + 1) (nI i) (nI e) a b d := by
  intro m
  induction m with
  | zero =>
    intro i R a b d S hi h
    exact br_t (nI_le (by omega) (by omega)) (h _ _ _ S)
  | succ m ih =>
    intro i R a b d S hi h
    exact br_f (nI_ge (by omega) (by omega)) (pc_cpY (i + 1) i S (by omega) (by omega) (nI_1 i) rfl (fun a' b' d' S' => nm_r (nI_1 i) (ih _ _ _ _ _ S' (by omega) h)))
theorem pc_cqY {post : SY → Prop} {f x y : Int32} {a b d : Nat → Int32} (i j : Nat) (hi : i < 11) (hj : j < 11) (ex : x = nI i) (ey : y = nI j) (h : post (f, upd a j (a i), upd b j (b i), upd d j (d i))) : wpY_copy post (f, a, b, d) x y := by
  subst ex ey
  have vi : vp_in (nI i) 11 := vp_in_nI (by omega) (by decide)
  have vj : vp_in (nI j) 11 := vp_in_nI (by omega) (by decide)
  unfold wpY_copy
  dsimp only
  rw [nI_clamp (n := i) (by omega), nI_clamp (n := j) (by omega)]
  exact ⟨vi, vj, nm_e ⟨vi, vj, nm_e ⟨vi, vj, nm_e h⟩⟩⟩
theorem pc_sw (a : Nat → Int32) {r s k : Nat} (hr : r < 10) (hs : s < 10) (hk : k < 10) : upd (upd (upd a 10 (a r)) r (upd a 10 (a r) s)) s (upd (upd a 10 (a r)) r (upd a 10 (a r) s) 10) k = upd (upd a r (a s)) s (a r) k := by
  by_cases e : k = s
  · subst e; rw [pk_us, pk_us, pk_un (by omega), pk_us]
  · rw [pk_un e, pk_un e]
    by_cases g : k = r
    · subst g; rw [pk_us, pk_us, pk_un (by omega)]
    · rw [pk_un g, pk_un g, pk_un (by omega)]
theorem pc_swX {post : Int32 → SX → Prop} {R : Nat → Nat × Nat × Nat} {a b d : Nat → Int32} {c r s : Nat} (S : pc_St R a b d) (hc : c ≤ 10) (hr : r < c) (hs : s < c) (h : ∀ a' b' d', pc_St (pc_up (pc_up R r (R s)) s (R r)) a' b' d' → post 0 (nI c, a', b', d')) : wpX_swap post (nI c, a, b, d) (nI r) (nI s) := by
  have vr : vp_in (nI r) 10 := vp_in_nI (by omega) (by decide)
  have vs : vp_in (nI s) 10 := vp_in_nI (by omega) (by decide)
  obtain ⟨e1, e2, e3⟩ := S r (by omega)
  unfold wpX_swap
  dsimp only
  rw [nI_clamp (n := r) (by omega), nI_clamp (n := s) (by omega)]
  refine pc_irX1 hr hc (br_f pc_10 (pc_irX1 hs hc (br_f pc_10 ⟨vr, nm_e ⟨vr, nm_e ⟨vr, nm_e ?_⟩⟩⟩)))
  exact pc_cpX s r S (by omega) (by omega) rfl rfl (fun a' b' d' S' => ⟨vs, nm_e ⟨vs, nm_e ⟨vs, nm_e (h _ _ _ (pc_Su S' e1 e2 e3))⟩⟩⟩)
theorem pc_swY {post : Int32 → SY → Prop} {R : Nat → Nat × Nat × Nat} {a b d : Nat → Int32} {c r s : Nat} (S : pc_St R a b d) (hc : c ≤ 10) (hr : r < c) (hs : s < c) (h : ∀ a' b' d', pc_St (pc_up (pc_up R r (R s)) s (R r)) a' b' d' → post 0 (nI c, a', b', d')) : wpY_swap post (nI c, a, b, d) (nI r) (nI s) := by
  obtain ⟨e1, e2, e3⟩ := S r (by omega)
  obtain ⟨g1, g2, g3⟩ := S s (by omega)
  have S' := pc_Su (j := s) (pc_Su (j := r) S g1 g2 g3) e1 e2 e3
  unfold wpY_swap
  dsimp only
  refine pc_irY1 hr hc (br_f pc_10 (pc_irY1 hs hc (br_f pc_10 ?_)))
  refine pc_cqY r 10 (by omega) (by omega) rfl rfl (pc_cqY s r (by omega) (by omega) rfl rfl (pc_cqY 10 s (by omega) (by omega) rfl rfl (h _ _ _ ?_)))
  intro k hk
  obtain ⟨k1, k2, k3⟩ := S' k hk
  exact ⟨(pc_sw a (r := r) (s := s) (by omega) (by omega) hk).trans k1, (pc_sw b (r := r) (s := s) (by omega) (by omega) hk).trans k2, (pc_sw d (r := r) (s := s) (by omega) (by omega) hk).trans k3⟩
/-- the arguments that insert takes -/
def pc_ok (c : Nat) (v1 v2 v3 v4 : Int32) : Prop := ∃ t p g q : Nat, v1 = nI t ∧ v2 = nI p ∧ v3 = nI g ∧ v4 = nI q ∧ t ≤ c ∧ p < 80 ∧ g < 64 ∧ g % 8 ≤ g / 8 ∧ q < 256 ∧ q % 8 ≤ q / 8 % 8
theorem pc_i0X {post : Int32 → SX → Prop} {a b d : Nat → Int32} {c : Nat} {v1 v2 v3 v4 : Int32} (hc : c ≤ 10) (bad : ¬ pc_ok c v1 v2 v3 v4) (h : post (-1) (nI c, a, b, d)) : wpX_insert post (nI c, a, b, d) v1 v2 v3 v4 := by
  unfold wpX_insert
  dsimp only
  refine br_c (fun _ => h) fun z0 => ?_
  obtain ⟨t, ht, rfl⟩ := nI_of z0
  refine pk_le t c (fun h1 => ?_) (fun _ => h)
  refine br_c (fun _ => h) fun z2 => ?_
  obtain ⟨p, hp, rfl⟩ := nI_of z2
  refine pk_lt p 80 (fun h3 => ?_) (fun _ => h)
  refine br_c (fun _ => h) fun z4 => ?_
  obtain ⟨g, hg, rfl⟩ := nI_of z4
  refine pk_le 64 g (fun _ => h) (fun h5 => ?_)
  refine pc_loX hg (pc_hiX hg ?_)
  refine pk_le (g % 8) (g / 8 % 8) (fun h6 => ?_) (fun _ => h)
  refine br_c (fun _ => h) fun z7 => ?_
  obtain ⟨q, hq, rfl⟩ := nI_of z7
  refine pk_le 256 q (fun _ => h) (fun h8 => ?_)
  refine pc_loX hq (pc_hiX hq ?_)
  refine pk_le (q % 8) (q / 8 % 8) (fun h9 => ?_) (fun _ => h)
  exact absurd ⟨t, p, g, q, rfl, rfl, rfl, rfl, h1, h3, h5, by omega, h8, h9⟩ bad
theorem pc_i0Y {post : Int32 → SY → Prop} {a b d : Nat → Int32} {c : Nat} {v1 v2 v3 v4 : Int32} (hc : c ≤ 10) (bad : ¬ pc_ok c v1 v2 v3 v4) (h : post (-1) (nI c, a, b, d)) : wpY_insert post (nI c, a, b, d) v1 v2 v3 v4 := by
  unfold wpY_insert
  dsimp only
  refine br_c (fun _ => h) fun z0 => ?_
  obtain ⟨t, ht, rfl⟩ := nI_of z0
  refine pk_lt c t (fun _ => h) (fun h1 => ?_)
  refine br_c (fun _ => h) fun z2 => ?_
  obtain ⟨p, hp, rfl⟩ := nI_of z2
  refine pk_lt 79 p (fun _ => h) (fun h3 => ?_)
  refine br_c (fun _ => h) fun z4 => ?_
  obtain ⟨g, hg, rfl⟩ := nI_of z4
  refine pk_lt 63 g (fun _ => h) (fun h5 => ⟨pc_8, pc_8, ?_⟩)
  refine pk_le (g % 8) (g / 8) (fun h6 => ?_) (fun _ => h) (pc_r8 hg) (pc_d8 hg)
  refine br_c (fun _ => h) fun z7 => ?_
  obtain ⟨q, hq, rfl⟩ := nI_of z7
  refine pk_lt 255 q (fun _ => h) (fun h8 => ⟨pc_8, pc_8, pc_8, ?_⟩)
  refine pk_le (q % 8) (q / 8 % 8) (fun h9 => ?_) (fun _ => h) (pc_r8 hq) (pc_r88 hq)
  exact absurd ⟨t, p, g, q, rfl, rfl, rfl, rfl, h1, by omega, by omega, h6, by omega, h9⟩ bad
theorem pc_i1X {post : Int32 → SX → Prop} {R : Nat → Nat × Nat × Nat} {a b d : Nat → Int32} {c t p g q : Nat} (S : pc_St R a b d) (hc : c ≤ 10) (h1 : t ≤ c) (h3 : p < 80) (h5 : g < 64) (h6 : g % 8 ≤ g / 8) (h8 : q < 256) (h9 : q % 8 ≤ q / 8 % 8) (hf : c = 10 → post (-2) (nI c, a, b, d)) (h : c < 10 → ∀ a' b' d', pc_St (pc_up (pc_sh t (c - t) R) t (p, g, q)) a' b' d' → post (nI (c + 1)) (nI (c + 1), a', b', d')) : wpX_insert post (nI c, a, b, d) (nI t) (nI p) (nI g) (nI q) := by
  unfold wpX_insert
  dsimp only
  refine br_f (nI_pos (by omega)) (br_t (nI_le h1 (by omega)) (br_f (nI_pos (by omega)) (br_t (nI_lt (b := 80) h3 (by decide)) (br_f (nI_pos (by omega)) (br_f (nI_ge (b := 64) h5 (by decide)) (pc_loX (by omega) (pc_hiX (by omega) (br_t (nI_le (by omega) (by omega)) ?_))))))))
  refine br_f (nI_pos (by omega)) (br_f (nI_ge (b := 256) h8 (by decide)) (pc_loX (by omega) (pc_hiX (by omega) (br_t (nI_le h9 (by omega)) ?_))))
  refine pk_lt c 10 (fun k => ?_) (fun k => hf (by omega))
  have e := pc_isX (post := post) (t := t) (c := c) (p := p) (g := g) (q := q) k (c - t) R a b d S (by omega) (h k)
  rw [show t + (c - t) = c by omega] at e
  exact ⟨_, e⟩
theorem pc_i1Y {post : Int32 → SY → Prop} {R : Nat → Nat × Nat × Nat} {a b d : Nat → Int32} {c t p g q : Nat} (S : pc_St R a b d) (hc : c ≤ 10) (h1 : t ≤ c) (h3 : p < 80) (h5 : g < 64) (h6 : g % 8 ≤ g / 8) (h8 : q < 256) (h9 : q % 8 ≤ q / 8 % 8) (hf : c = 10 → post (-2) (nI c, a, b, d)) (h : c < 10 → ∀ a' b' d', pc_St (pc_up (pc_sh t (c - t) R) t (p, g, q)) a' b' d' → post (nI (c + 1)) (nI (c + 1), a', b', d')) : wpY_insert post (nI c, a, b, d) (nI t) (nI p) (nI g) (nI q) := by
  unfold wpY_insert
  dsimp only
  refine br_f (nI_pos (by omega)) (br_f (nI_nlt h1 (by omega)) (br_f (nI_pos (by omega)) (br_f (nI_nlt (a := 79) (by omega) (by decide)) (br_f (nI_pos (by omega)) (br_f (nI_nlt (a := 63) (by omega) (by decide)) ⟨pc_8, pc_8, ?_⟩)))))
  refine pk_le (g % 8) (g / 8) (fun _ => ?_) (fun k => absurd h6 (Nat.not_le.mpr k)) (pc_r8 (by omega)) (pc_d8 (by omega))
  refine br_f (nI_pos (by omega)) (br_f (nI_nlt (a := 255) (by omega) (by decide)) ⟨pc_8, pc_8, pc_8, ?_⟩)
  refine pk_le (q % 8) (q / 8 % 8) (fun _ => ?_) (fun k => absurd h9 (Nat.not_le.mpr k)) (pc_r8 (by omega)) (pc_r88 (by omega))
  refine pk_eq c 10 (fun k => hf k) (fun k => ?_)
  have e := pc_isY (post := post) (t := t) (c := c) (p := p) (g := g) (q := q) (by omega) (c - t) R a b d S (by omega) (h (by omega))
  rw [show t + (c - t) = c by omega] at e
  exact ⟨_, e⟩
end
section
/-- the same rules on both sides, numbered alike; the reference's cell 10 is free -/
def i_Rel (_ : Nat) (u : SX) (v : SY) : Prop := ∃ (c : Nat) (R : Nat → Nat × Nat × Nat) (a b d a' b' d' : Nat → Int32), c ≤ 10 ∧ pc_Bd R ∧ pc_St R a b d ∧ pc_St R a' b' d' ∧ u = (nI c, a, b, d) ∧ v = (nI c, a', b', d')
theorem i_up {k : Nat} {u : SX} {v : SY} (h : i_Rel k u v) : i_Rel (k + 5) u v := h
theorem i_vc0 : wpX_init (fun u => wpY_init (fun v => i_Rel 0 u v)) := ⟨0, fun _ => (0, 0, 0), fun _ => 0, fun _ => 0, fun _ => 0, fun _ => 0, fun _ => 0, fun _ => 0, by omega, fun _ _ => ⟨Nat.zero_lt_succ 79, Nat.zero_lt_succ 63, Nat.zero_lt_succ 255⟩, fun _ _ => ⟨rfl, rfl, rfl⟩, fun _ _ => ⟨rfl, rfl, rfl⟩, rfl, rfl⟩
theorem i_vc_insert {k : Nat} {u : SX} {v : SY} (I : i_Rel k u v) (hk : k + 5 ≤ 2560) (v1 : Int32) (v2 : Int32) (v3 : Int32) (v4 : Int32) : wpX_insert (fun r u' => wpY_insert (fun r' v' => r' = r ∧ i_Rel (k + 5) u' v') v v1 v2 v3 v4) u v1 v2 v3 v4 := by
  obtain ⟨c, R, a, b, d, a', b', d', hc, B, S, S', rfl, rfl⟩ := I
  have J : i_Rel (k + 5) (nI c, a, b, d) (nI c, a', b', d') := ⟨c, R, a, b, d, a', b', d', hc, B, S, S', rfl, rfl⟩
  by_cases g : pc_ok c v1 v2 v3 v4
  · obtain ⟨t, p, g, q, rfl, rfl, rfl, rfl, h1, h3, h5, h6, h8, h9⟩ := g
    refine pc_i1X S hc h1 h3 h5 h6 h8 h9 (fun e => pc_i1Y S' hc h1 h3 h5 h6 h8 h9 (fun _ => ⟨rfl, J⟩) (fun z => absurd e (by omega))) (fun e x y z T => pc_i1Y S' hc h1 h3 h5 h6 h8 h9 (fun z => absurd e (by omega)) (fun _ x' y' z' T' => ⟨rfl, ?_⟩))
    exact ⟨c + 1, _, x, y, z, x', y', z', by omega, pc_Bu (pc_Bsh t (c - t) R (by omega) B) ⟨h3, h5, h8⟩, T, T', rfl, rfl⟩
  · exact pc_i0X hc g (pc_i0Y hc g ⟨rfl, J⟩)
theorem i_vc_remove {k : Nat} {u : SX} {v : SY} (I : i_Rel k u v) (hk : k + 5 ≤ 2560) (v1 : Int32) : wpX_remove (fun r u' => wpY_remove (fun r' v' => r' = r ∧ i_Rel (k + 5) u' v') v v1) u v1 := by
  obtain ⟨c, R, a, b, d, a', b', d', hc, B, S, S', rfl, rfl⟩ := I
  have J : i_Rel (k + 5) (nI c, a, b, d) (nI c, a', b', d') := ⟨c, R, a, b, d, a', b', d', hc, B, S, S', rfl, rfl⟩
  unfold wpX_remove wpY_remove
  dsimp only
  cases pc_ru v1 hc with
  | inl h => exact pc_irX0 h (br_t rfl (pc_irY0 h (br_t rfl ⟨rfl, J⟩)))
  | inr h =>
    obtain ⟨r, hr, rfl⟩ := h
    obtain ⟨e, rfl⟩ : ∃ e, c = e + 1 := ⟨c - 1, by omega⟩
    refine pc_irX1 hr hc (br_f pc_10 ⟨_, pc_rmX (by omega) (e - r) r R a b d S (by omega) (fun x y z T => ?_)⟩)
    refine pc_irY1 hr hc (br_f pc_10 (nm_r (nI_pred e) ⟨_, pc_rmY (by omega) (e - r) r R a' b' d' S' (by omega) (fun x' y' z' T' => ⟨rfl, ?_⟩)⟩))
    exact ⟨e, _, x, y, z, x', y', z', by omega, pc_Brm (e - r) r R (by omega) B, T, T', rfl, rfl⟩
theorem i_vc_swap {k : Nat} {u : SX} {v : SY} (I : i_Rel k u v) (hk : k + 5 ≤ 2560) (v1 : Int32) (v2 : Int32) : wpX_swap (fun r u' => wpY_swap (fun r' v' => r' = r ∧ i_Rel (k + 5) u' v') v v1 v2) u v1 v2 := by
  obtain ⟨c, R, a, b, d, a', b', d', hc, B, S, S', rfl, rfl⟩ := I
  have J : i_Rel (k + 5) (nI c, a, b, d) (nI c, a', b', d') := ⟨c, R, a, b, d, a', b', d', hc, B, S, S', rfl, rfl⟩
  cases pc_ru v1 hc with
  | inl h =>
    unfold wpX_swap wpY_swap
    dsimp only
    exact pc_irX0 h (br_t rfl (pc_irY0 h (br_t rfl ⟨rfl, J⟩)))
  | inr h =>
    obtain ⟨r, hr, rfl⟩ := h
    cases pc_ru v2 hc with
    | inl h =>
      unfold wpX_swap wpY_swap
      dsimp only
      exact pc_irX1 hr hc (br_f pc_10 (pc_irX0 h (br_t rfl (pc_irY1 hr hc (br_f pc_10 (pc_irY0 h (br_t rfl ⟨rfl, J⟩)))))))
    | inr h =>
      obtain ⟨s, hs, rfl⟩ := h
      refine pc_swX S hc hr hs (fun x y z T => pc_swY S' hc hr hs (fun x' y' z' T' => ⟨rfl, ?_⟩))
      exact ⟨c, _, x, y, z, x', y', z', hc, pc_Bu (pc_Bu B (B s (by omega))) (B r (by omega)), T, T', rfl, rfl⟩
theorem i_vc_rules {k : Nat} {u : SX} {v : SY} (I : i_Rel k u v) (hk : k + 5 ≤ 2560) : wpX_rules (fun r => wpY_rules (fun r' => r' = r ∧ i_Rel (k + 5) u v) v) u := by
  obtain ⟨c, R, a, b, d, a', b', d', hc, B, S, S', rfl, rfl⟩ := I
  have J : i_Rel (k + 5) (nI c, a, b, d) (nI c, a', b', d') := ⟨c, R, a, b, d, a', b', d', hc, B, S, S', rfl, rfl⟩
  exact ⟨rfl, J⟩
theorem i_vc_decide {k : Nat} {u : SX} {v : SY} (I : i_Rel k u v) (hk : k + 5 ≤ 2560) (v1 : Int32) : wpX_decide (fun r => wpY_decide (fun r' => r' = r ∧ i_Rel (k + 5) u v) v v1) u v1 := by
  obtain ⟨c, R, a, b, d, a', b', d', hc, B, S, S', rfl, rfl⟩ := I
  have J : i_Rel (k + 5) (nI c, a, b, d) (nI c, a', b', d') := ⟨c, R, a, b, d, a', b', d', hc, B, S, S', rfl, rfl⟩
  unfold wpX_decide wpY_decide
  dsimp only
  cases pc_pa v1 with
  | inl h => exact pc_ipX0 h (br_t rfl (pc_ipY0 h (br_t rfl ⟨rfl, J⟩)))
  | inr h =>
    obtain ⟨p, hp, rfl⟩ := h
    exact pc_ipX1 hp (br_f pc_10 (pc_f0X S B hc hp (pc_ipY1 hp (br_f pc_10 (pc_f0Y S' B hc hp ⟨rfl, J⟩)))))
theorem i_vc_action {k : Nat} {u : SX} {v : SY} (I : i_Rel k u v) (hk : k + 5 ≤ 2560) (v1 : Int32) : wpX_action (fun r => wpY_action (fun r' => r' = r ∧ i_Rel (k + 5) u v) v v1) u v1 := by
  obtain ⟨c, R, a, b, d, a', b', d', hc, B, S, S', rfl, rfl⟩ := I
  have J : i_Rel (k + 5) (nI c, a, b, d) (nI c, a', b', d') := ⟨c, R, a, b, d, a', b', d', hc, B, S, S', rfl, rfl⟩
  unfold wpX_action wpY_action
  dsimp only
  cases pc_pa v1 with
  | inl h => exact pc_ipX0 h (br_t rfl (pc_ipY0 h (br_t rfl ⟨rfl, J⟩)))
  | inr h =>
    obtain ⟨p, hp, rfl⟩ := h
    exact pc_ipX1 hp (br_f pc_10 (pc_f0X S B hc hp (pc_acX S B hc (pc_Dr R c p) (pc_ipY1 hp (br_f pc_10 (pc_f0Y S' B hc hp (pc_acY S' B hc (pc_Dr R c p) ⟨rfl, J⟩)))))))
theorem i_vc_holding {k : Nat} {u : SX} {v : SY} (I : i_Rel k u v) (hk : k + 5 ≤ 2560) (v1 : Int32) : wpX_holding (fun r => wpY_holding (fun r' => r' = r ∧ i_Rel (k + 5) u v) v v1) u v1 := by
  obtain ⟨c, R, a, b, d, a', b', d', hc, B, S, S', rfl, rfl⟩ := I
  have J : i_Rel (k + 5) (nI c, a, b, d) (nI c, a', b', d') := ⟨c, R, a, b, d, a', b', d', hc, B, S, S', rfl, rfl⟩
  unfold wpX_holding wpY_holding
  dsimp only
  cases pc_pa v1 with
  | inl h => exact pc_ipX0 h (br_t rfl (pc_ipY0 h (br_t rfl ⟨rfl, J⟩)))
  | inr h =>
    obtain ⟨p, hp, rfl⟩ := h
    refine pc_ipX1 hp (br_f pc_10 ⟨_, pc_hgX S B hc hp c 0 0 (by omega) ?_⟩)
    exact pc_ipY1 hp (br_f pc_10 ⟨_, pc_hgY S' B hc hp c 0 0 (by omega) ⟨rfl, J⟩⟩)
theorem i_vc_reach {k : Nat} {u : SX} {v : SY} (I : i_Rel k u v) (hk : k + 5 ≤ 2560) (v1 : Int32) : wpX_reach (fun r => wpY_reach (fun r' => r' = r ∧ i_Rel (k + 5) u v) v v1) u v1 := by
  obtain ⟨c, R, a, b, d, a', b', d', hc, B, S, S', rfl, rfl⟩ := I
  have J : i_Rel (k + 5) (nI c, a, b, d) (nI c, a', b', d') := ⟨c, R, a, b, d, a', b', d', hc, B, S, S', rfl, rfl⟩
  unfold wpX_reach wpY_reach
  dsimp only
  cases pc_ru v1 hc with
  | inl h => exact pc_irX0 h (br_t rfl (pc_irY0 h (br_t rfl ⟨rfl, J⟩)))
  | inr h =>
    obtain ⟨r, hr, rfl⟩ := h
    refine pc_irX1 hr hc (br_f pc_10 ⟨_, pc_reX S B hc hr 1024 0 0 (by omega) ?_⟩)
    exact pc_irY1 hr hc (br_f pc_10 ⟨_, pc_reY S' B hc hr 1024 0 0 (by omega) ⟨rfl, J⟩⟩)
theorem i_vc_decided {k : Nat} {u : SX} {v : SY} (I : i_Rel k u v) (hk : k + 5 ≤ 2560) (v1 : Int32) : wpX_decided (fun r => wpY_decided (fun r' => r' = r ∧ i_Rel (k + 5) u v) v v1) u v1 := by
  obtain ⟨c, R, a, b, d, a', b', d', hc, B, S, S', rfl, rfl⟩ := I
  have J : i_Rel (k + 5) (nI c, a, b, d) (nI c, a', b', d') := ⟨c, R, a, b, d, a', b', d', hc, B, S, S', rfl, rfl⟩
  unfold wpX_decided wpY_decided
  dsimp only
  cases pc_ru v1 hc with
  | inl h => exact pc_irX0 h (br_t rfl (pc_irY0 h (br_t rfl ⟨rfl, J⟩)))
  | inr h =>
    obtain ⟨r, hr, rfl⟩ := h
    refine pc_irX1 hr hc (br_f pc_10 (pc_cpdX S B hc (nI r) ?_))
    exact pc_irY1 hr hc (br_f pc_10 ⟨_, pc_cdY S' B hc (nI r) 1024 0 0 (by omega) ⟨rfl, J⟩⟩)
theorem i_vc_weight {k : Nat} {u : SX} {v : SY} (I : i_Rel k u v) (hk : k + 5 ≤ 2560) (v1 : Int32) : wpX_weight (fun r => wpY_weight (fun r' => r' = r ∧ i_Rel (k + 5) u v) v v1) u v1 := by
  obtain ⟨c, R, a, b, d, a', b', d', hc, B, S, S', rfl, rfl⟩ := I
  have J : i_Rel (k + 5) (nI c, a, b, d) (nI c, a', b', d') := ⟨c, R, a, b, d, a', b', d', hc, B, S, S', rfl, rfl⟩
  unfold wpX_weight wpY_weight
  dsimp only
  cases pc_ru v1 hc with
  | inl h => exact pc_irX0 h (br_t rfl (pc_irY0 h (br_t rfl ⟨rfl, J⟩)))
  | inr h =>
    obtain ⟨r, hr, rfl⟩ := h
    refine pc_irX1 hr hc (br_f pc_10 ⟨_, pc_weX S B hc hr 1024 0 0 (by omega) ?_⟩)
    exact pc_irY1 hr hc (br_f pc_10 ⟨_, pc_weY S' B hc hr 1024 0 0 (by omega) ⟨rfl, J⟩⟩)
theorem i_vc_undecided {k : Nat} {u : SX} {v : SY} (I : i_Rel k u v) (hk : k + 5 ≤ 2560) : wpX_undecided (fun r => wpY_undecided (fun r' => r' = r ∧ i_Rel (k + 5) u v) v) u := by
  obtain ⟨c, R, a, b, d, a', b', d', hc, B, S, S', rfl, rfl⟩ := I
  have J : i_Rel (k + 5) (nI c, a, b, d) (nI c, a', b', d') := ⟨c, R, a, b, d, a', b', d', hc, B, S, S', rfl, rfl⟩
  unfold wpX_undecided wpY_undecided
  dsimp only
  exact pc_cpdX S B hc (-4) ⟨_, pc_udY S' B hc 1024 0 0 (by omega) ⟨rfl, J⟩⟩
theorem i_vc_idle {k : Nat} {u : SX} {v : SY} (I : i_Rel k u v) (hk : k + 5 ≤ 2560) : wpX_idle (fun r => wpY_idle (fun r' => r' = r ∧ i_Rel (k + 5) u v) v) u := by
  obtain ⟨c, R, a, b, d, a', b', d', hc, B, S, S', rfl, rfl⟩ := I
  have J : i_Rel (k + 5) (nI c, a, b, d) (nI c, a', b', d') := ⟨c, R, a, b, d, a', b', d', hc, B, S, S', rfl, rfl⟩
  unfold wpX_idle wpY_idle
  dsimp only
  exact ⟨_, pc_idX S B hc c 0 0 (by omega) ⟨_, pc_idY S' B hc c 0 0 (by omega) ⟨rfl, J⟩⟩⟩
theorem i_vc_deepest {k : Nat} {u : SX} {v : SY} (I : i_Rel k u v) (hk : k + 5 ≤ 2560) : wpX_deepest (fun r => wpY_deepest (fun r' => r' = r ∧ i_Rel (k + 5) u v) v) u := by
  obtain ⟨c, R, a, b, d, a', b', d', hc, B, S, S', rfl, rfl⟩ := I
  have J : i_Rel (k + 5) (nI c, a, b, d) (nI c, a', b', d') := ⟨c, R, a, b, d, a', b', d', hc, B, S, S', rfl, rfl⟩
  unfold wpX_deepest wpY_deepest
  dsimp only
  exact ⟨_, pc_deX S B hc 1024 0 0 (by omega) ⟨_, pc_deY S' B hc 1024 0 0 (by omega) ⟨rfl, J⟩⟩⟩
theorem i_vc_acted {k : Nat} {u : SX} {v : SY} (I : i_Rel k u v) (hk : k + 5 ≤ 2560) (v1 : Int32) : wpX_acted (fun r => wpY_acted (fun r' => r' = r ∧ i_Rel (k + 5) u v) v v1) u v1 := by
  obtain ⟨c, R, a, b, d, a', b', d', hc, B, S, S', rfl, rfl⟩ := I
  have J : i_Rel (k + 5) (nI c, a, b, d) (nI c, a', b', d') := ⟨c, R, a, b, d, a', b', d', hc, B, S, S', rfl, rfl⟩
  unfold wpX_acted wpY_acted
  dsimp only
  by_cases z : v1 < 0
  · exact br_t z (br_t z ⟨rfl, J⟩)
  · obtain ⟨q, hq, rfl⟩ := nI_of z
    by_cases h : q < 4
    · exact br_f z (br_t (nI_lt (b := 4) h (by decide)) ⟨_, pc_atX S B hc (nI q) 1024 0 0 (by omega) (br_f z (br_t (nI_le (b := 3) (by omega) (by decide)) ⟨_, pc_atY S' B hc (nI q) 1024 0 0 (by omega) ⟨rfl, J⟩⟩))⟩)
    · exact br_f z (br_f (nI_nlt (b := 4) (by omega) hq) (br_f z (br_f (nI_ge (a := 3) (by omega) hq) ⟨rfl, J⟩)))
theorem i_vc_next {k : Nat} {u : SX} {v : SY} (I : i_Rel k u v) (hk : k + 5 ≤ 2560) (v1 : Int32) (v2 : Int32) : wpX_next (fun r => wpY_next (fun r' => r' = r ∧ i_Rel (k + 5) u v) v v1 v2) u v1 v2 := by
  obtain ⟨c, R, a, b, d, a', b', d', hc, B, S, S', rfl, rfl⟩ := I
  have J : i_Rel (k + 5) (nI c, a, b, d) (nI c, a', b', d') := ⟨c, R, a, b, d, a', b', d', hc, B, S, S', rfl, rfl⟩
  unfold wpX_next wpY_next
  dsimp only
  cases pc_ru v1 hc with
  | inl h =>
    refine pc_irX0 h (br_t rfl ?_)
    have N : ∀ x : Int32, wY_next_10 (fun r' => r' = -4 ∧ i_Rel (k + 5) (nI c, a, b, d) (nI c, a', b', d')) v1 (nI c) a' b' d' 1 x := fun x => br_c (fun _ => ⟨rfl, J⟩) (fun _ => pc_irY0 h (br_t rfl ⟨rfl, J⟩))
    exact br_c (fun _ => ⟨1, N _⟩) (fun _ => ⟨1, N _⟩)
  | inr h =>
    obtain ⟨r, hr, rfl⟩ := h
    refine pc_irX1 hr hc (br_f pc_10 ?_)
    by_cases z : v2 < 0
    · have z' : ¬ 0 ≤ v2 := Int32.not_le.mpr z
      exact br_f z' ⟨_, pc_neX S B hc hr (1024 - 0) 0 rfl (by decide) (br_f z' ⟨_, pc_neY S' B hc hr (1024 - 0) 0 rfl (by decide) ⟨rfl, J⟩⟩)⟩
    · obtain ⟨j, hj, rfl⟩ := nI_of z
      exact br_t (nI_pos' hj) ⟨_, pc_neX S B hc hr (1024 - j) j rfl hj (br_t (nI_pos' hj) ⟨_, pc_neY S' B hc hr (1024 - j) j rfl hj ⟨rfl, J⟩⟩)⟩
end
