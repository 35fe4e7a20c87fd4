section
theorem pk_us {f : Nat → Int32} {k : Nat} {x : Int32} : upd f k x k = x := if_pos rfl
theorem pk_un {f : Nat → Int32} {k j : Nat} {x : Int32} (h : j ≠ k) : upd f k x j = f j := if_neg h
theorem pk_sub {a b : Nat} (h : b ≤ a) : nI a - nI b = nI (a - b) := by
  obtain ⟨c, rfl⟩ : ∃ c, a = c + b := ⟨a - b, by omega⟩
  rw [← nI_add, Int32.add_sub_cancel, Nat.add_sub_cancel]
theorem pk_m1 (n : Nat) : nI (n + 1) + (-1) = nI n := by
  rw [← nI_1, Int32.add_assoc, show (1 : Int32) + (-1) = 0 from rfl, Int32.add_zero]
theorem pk_mul (a b : Nat) : nI a * nI b = nI (a * b) := (Int32.ofNat_mul a b).symm
theorem pk_div {a d : Nat} (ha : a < 2 ^ 31) (h0 : 0 < d) (hd : d < 2 ^ 31) : nI a / nI d = nI (a / d) := by
  apply Int32.toInt_inj.mp
  rw [lg_idiv_nonneg (by rw [nI_toInt ha]; omega) (by rw [nI_toInt hd]; omega), nI_toInt ha, nI_toInt hd, nI_toInt (Nat.lt_of_le_of_lt (Nat.div_le_self a d) ha)]
  first | rfl | exact (Int.natCast_ediv _ _).symm
theorem pk_rem {a d : Nat} (ha : a < 2 ^ 31) (h0 : 0 < d) (hd : d < 2 ^ 31) : nI a - nI a / nI d * nI d = nI (a % d) := by
  rw [pk_div ha h0 hd, pk_mul, pk_sub (Nat.div_mul_le_self a d)]
  exact congrArg nI (by have := Nat.div_add_mod' a d; omega)
theorem pk_ix (x : Int32) {n : Nat} (hn : n < 2 ^ 31) : x < 0 ∨ nI n ≤ x ∨ ∃ j : Nat, j < n ∧ x = nI j := by
  by_cases h : x < 0
  · exact Or.inl h
  · obtain ⟨j, hj, rfl⟩ := nI_of h
    by_cases h2 : j < n
    · exact Or.inr (Or.inr ⟨j, h2, rfl⟩)
    · exact Or.inr (Or.inl (nI_le (by omega) hj))
theorem pk_le {x y : Int32} {A B : Prop} (a b : Nat) (f : a ≤ b → A) (g : b < a → B) (hx : x = nI a := by rfl) (hy : y = nI b := by rfl) (ha : a < 2 ^ 31 := by omega) (hb : b < 2 ^ 31 := by omega) : (x ≤ y → A) ∧ (¬ x ≤ y → B) := by
  subst hx hy
  rw [nI_leI ha hb]
  exact ⟨f, fun z => g (by omega)⟩
theorem pk_lt {x y : Int32} {A B : Prop} (a b : Nat) (f : a < b → A) (g : b ≤ a → B) (hx : x = nI a := by rfl) (hy : y = nI b := by rfl) (ha : a < 2 ^ 31 := by omega) (hb : b < 2 ^ 31 := by omega) : (x < y → A) ∧ (¬ x < y → B) := by
  subst hx hy
  rw [nI_ltI ha hb]
  exact ⟨f, fun z => g (by omega)⟩
theorem pk_eq {x y : Int32} {A B : Prop} (a b : Nat) (f : a = b → A) (g : a ≠ b → B) (hx : x = nI a := by rfl) (hy : y = nI b := by rfl) (ha : a < 2 ^ 31 := by omega) (hb : b < 2 ^ 31 := by omega) : (x = y → A) ∧ (¬ x = y → B) := by
  subst hx hy
  rw [nI_eq ha hb]
  exact ⟨f, g⟩
theorem pk_in {x : Int32} (n N : Nat) (h : n < N) (hx : x = nI n := by rfl) (hN : N < 2 ^ 31 := by omega) : vp_in x N := by
  subst hx
  exact vp_in_nI h hN
theorem pk_cl {x : Int32} (n : Nat) (hx : x = nI n := by rfl) (h : n < 2 ^ 31 := by omega) : x.toNatClampNeg = n := by
  subst hx
  exact nI_clamp h
theorem pk_tn {n : Nat} (h : n < 2 ^ 32) : (nI n).toBitVec.toNat = n := Nat.mod_eq_of_lt h
theorem pk_and (x : Int32) {m : Int32} (k : Nat) (hm : m.toBitVec.toNat = 2 ^ k - 1) : x &&& m = nI (x.toBitVec.toNat % 2 ^ k) := by
  apply Int32.toBitVec_inj.mp
  apply BitVec.eq_of_toNat_eq
  rw [Int32.toBitVec_and, BitVec.toNat_and, hm, Nat.and_two_pow_sub_one_eq_mod]
  show _ = (BitVec.ofNat 32 _).toNat
  rw [BitVec.toNat_ofNat]
  exact (Nat.mod_eq_of_lt (Nat.lt_of_le_of_lt (Nat.mod_le _ _) x.toBitVec.isLt)).symm
theorem pk_andN {n : Nat} (h : n < 2 ^ 32) {m : Int32} (k : Nat) (hm : m.toBitVec.toNat = 2 ^ k - 1) : nI n &&& m = nI (n % 2 ^ k) := by
  rw [pk_and _ k hm, pk_tn h]
theorem pk_shr (a s : Int32) (k : Nat) (hs : (s.toBitVec.smod 32).toNat = k) : (a >>> s).toInt = a.toInt >>> k := by
  show (a.toBitVec.sshiftRight (s.toBitVec.smod 32).toNat).toInt = _
  rw [hs, BitVec.toInt_sshiftRight]
  rfl
theorem pk_shrN {n : Nat} (h : n < 2 ^ 31) (s : Int32) (k : Nat) (hs : (s.toBitVec.smod 32).toNat = k) : nI n >>> s = nI (n / 2 ^ k) := by
  apply Int32.toInt_inj.mp
  have h2 : n / 2 ^ k ≤ n := Nat.div_le_self _ _
  rw [pk_shr _ _ k hs, nI_toInt h, nI_toInt (by omega), Int.shiftRight_eq_div_pow]
  rfl
theorem s_l : ∀ n, n < 32 → ((nI n &&& 31).toBitVec.smod 32).toNat = n := by decide +kernel
theorem pc_and7 {n : Nat} (h : n < 2 ^ 31) : nI n &&& 7 = nI (n % 8) := pk_andN (by omega) 3 (by decide)
theorem pc_and15 {n : Nat} (h : n < 2 ^ 31) : nI n &&& 15 = nI (n % 16) := pk_andN (by omega) 4 (by decide)
theorem pc_s3 {n : Nat} (h : n < 2 ^ 31) : nI n >>> ((3 : Int32) &&& 31) = nI (n / 8) := pk_shrN h _ 3 (by decide)
theorem pc_s4 {n : Nat} (h : n < 2 ^ 31) : nI n >>> ((4 : Int32) &&& 31) = nI (n / 16) := pk_shrN h _ 4 (by decide)
theorem pc_s6 {n : Nat} (h : n < 2 ^ 31) : nI n >>> ((6 : Int32) &&& 31) = nI (n / 64) := pk_shrN h _ 6 (by decide)
theorem pc_hi {n : Nat} (h : n < 2 ^ 31) : (nI n >>> ((3 : Int32) &&& 31)) &&& 7 = nI (n / 8 % 8) := by
  rw [pc_s3 h, pc_and7 (by omega)]
theorem pc_sv {n s : Nat} (h : n < 2 ^ 31) (hs : s < 32) : nI n >>> (nI s &&& 31) = nI (n / 2 ^ s) := pk_shrN h _ s (s_l s hs)
theorem pc_d8 {n : Nat} (h : n < 2 ^ 31) : nI n / 8 = nI (n / 8) := pk_div (d := 8) h (by decide) (by decide)
theorem pc_d16 {n : Nat} (h : n < 2 ^ 31) : nI n / 16 = nI (n / 16) := pk_div (d := 16) h (by decide) (by decide)
theorem pc_d64 {n : Nat} (h : n < 2 ^ 31) : nI n / 64 = nI (n / 64) := pk_div (d := 64) h (by decide) (by decide)
theorem pc_r8 {n : Nat} (h : n < 2 ^ 31) : nI n - nI n / 8 * 8 = nI (n % 8) := pk_rem (d := 8) h (by decide) (by decide)
theorem pc_r16 {n : Nat} (h : n < 2 ^ 31) : nI n - nI n / 16 * 16 = nI (n % 16) := pk_rem (d := 16) h (by decide) (by decide)
theorem pc_r88 {n : Nat} (h : n < 2 ^ 31) : (nI n / 8) - (nI n / 8) / 8 * 8 = nI (n / 8 % 8) := by
  rw [pc_d8 h, pc_r8 (by omega)]
theorem pc_4s {n : Nat} (h : n ≤ 4) : 4 - nI n = nI (4 - n) := pk_sub (a := 4) h
theorem pc_10 : ¬ (1 : Int32) = 0 := by decide
theorem pc_64 : ¬ (64 : Int32) = 0 := by decide
theorem pc_16 : ¬ (16 : Int32) = 0 := by decide
theorem pc_8 : ¬ (8 : Int32) = 0 := by decide
theorem pc_m4 : (-4 : Int32) < 0 := by decide
theorem pc_m4' : ¬ (0 : Int32) ≤ -4 := by decide
theorem pc_1024 : (1024 : Int32) ≤ nI 1024 := by decide
theorem pc_n1024 {i : Nat} (h : i < 1024) : ¬ (1024 : Int32) ≤ nI i := nI_ge (b := 1024) h (by decide)
/-- a rule: prefix, goals, ports and action; the rules by their numbers -/
def pc_Bd (R : Nat → Nat × Nat × Nat) : Prop := ∀ j, j < 10 → (R j).1 < 80 ∧ (R j).2.1 < 64 ∧ (R j).2.2 < 256
def pc_St (R : Nat → Nat × Nat × Nat) (a b d : Nat → Int32) : Prop := ∀ j, j < 10 → a j = nI (R j).1 ∧ b j = nI (R j).2.1 ∧ d j = nI (R j).2.2
def pc_up (R : Nat → Nat × Nat × Nat) (i : Nat) (q : Nat × Nat × Nat) : Nat → Nat × Nat × Nat := fun j => if j = i then q else R j
/-- does rule r hold for packet p -/
def pc_P (q : Nat × Nat × Nat) (p : Nat) : Prop := p / 64 / 2 ^ (4 - q.1 / 16) = q.1 % 16 / 2 ^ (4 - q.1 / 16) ∧ q.2.1 % 8 ≤ p / 8 % 8 ∧ p / 8 % 8 ≤ q.2.1 / 8 % 8 ∧ q.2.2 % 8 ≤ p % 8 ∧ p % 8 ≤ q.2.2 / 8 % 8
noncomputable def pc_H (R : Nat → Nat × Nat × Nat) (p r : Nat) : Bool := @decide (pc_P (R r) p) (Classical.propDecidable _)
theorem pc_Ht {R : Nat → Nat × Nat × Nat} {p r : Nat} (h : pc_P (R r) p) : pc_H R p r = true := @decide_eq_true _ (Classical.propDecidable _) h
theorem pc_Hf {R : Nat → Nat × Nat × Nat} {p r : Nat} (h : ¬ pc_P (R r) p) : pc_H R p r = false := @decide_eq_false _ (Classical.propDecidable _) h
/-- the answer of a test -/
def pc_b (b : Bool) : Int32 := match b with | true => 1 | false => 0
/-- the first number, from i on, of n, at which g holds -/
def pc_F (g : Nat → Bool) : Nat → Nat → Int32
  | 0, _ => -4
  | n + 1, i => match g i with | true => nI i | false => pc_F g n (i + 1)
theorem pc_Ft {g : Nat → Bool} {n i : Nat} (h : g i = true) : pc_F g (n + 1) i = nI i := by rw [pc_F, h]
theorem pc_Ff {g : Nat → Bool} {n i : Nat} (h : g i = false) : pc_F g (n + 1) i = pc_F g n (i + 1) := by rw [pc_F, h]
theorem pc_Fr (g : Nat → Bool) : ∀ n i, pc_F g n i = -4 ∨ ∃ k, k < i + n ∧ pc_F g n i = nI k := by
  intro n
  induction n with
  | zero => intro i; exact Or.inl rfl
  | succ n ih =>
    intro i
    cases h : g i with
    | true => exact Or.inr ⟨i, by omega, pc_Ft h⟩
    | false =>
      rw [pc_Ff h]
      cases ih (i + 1) with
      | inl e => exact Or.inl e
      | inr e => obtain ⟨k, hk, e⟩ := e; exact Or.inr ⟨k, by omega, e⟩
/-- n steps of f, from number i on -/
def pc_I (f : Nat → Int32 → Int32) : Nat → Nat → Int32 → Int32
  | 0, _, x => x
  | n + 1, i, x => pc_I f n (i + 1) (f i x)
theorem pc_Is {f : Nat → Int32 → Int32} {n i : Nat} {x y : Int32} {post : Int32 → Prop} (e : f i x = y) (h : post (pc_I f (n + 1) i x)) : post (pc_I f n (i + 1) y) := by
  rw [← e]; exact h
end
section
theorem pc_loX {post : Int32 → Prop} {n : Nat} (h : n < 2 ^ 31) (hp : post (nI (n % 8))) : wpX_low post (nI n) := by
  unfold wpX_low
  rw [pc_and7 h]
  exact hp
theorem pc_hiX {post : Int32 → Prop} {n : Nat} (h : n < 2 ^ 31) (hp : post (nI (n / 8 % 8))) : wpX_high post (nI n) := by
  unfold wpX_high
  rw [pc_hi h]
  exact hp
theorem pc_pfX {post : Int32 → Prop} {q p : Nat} (hq : q < 80) (hp : p < 16) (h1 : p / 2 ^ (4 - q / 16) = q % 16 / 2 ^ (4 - q / 16) → post 1) (h0 : p / 2 ^ (4 - q / 16) ≠ q % 16 / 2 ^ (4 - q / 16) → post 0) : wpX_prefixHolds post (nI q) (nI p) := by
  refine nm_r (pc_and15 (by omega)) (nm_r (e' := nI (4 - q / 16)) (by rw [pc_s4 (by omega), pc_4s (by omega)]) ?_)
  exact pk_eq (p / 2 ^ (4 - q / 16)) (q % 16 / 2 ^ (4 - q / 16)) h1 h0 (pc_sv (by omega) (by omega)) (pc_sv (by omega) (by omega)) (Nat.lt_of_le_of_lt (Nat.div_le_self _ _) (by omega)) (Nat.lt_of_le_of_lt (Nat.div_le_self _ _) (by omega))
theorem pc_hoX {post : Int32 → Prop} {R : Nat → Nat × Nat × Nat} {f : Int32} {a b d : Nat → Int32} (S : pc_St R a b d) (B : pc_Bd R) {r p : Nat} (hr : r < 10) (hp : p < 1024) (h1 : pc_H R p r = true → post 1) (h0 : pc_H R p r = false → post 0) : wpX_holds post (f, a, b, d) (nI r) (nI p) := by
  obtain ⟨ea, eb, ed⟩ := S r hr
  obtain ⟨ba, bb, bd⟩ := B r hr
  have hi : vp_in (nI r) 10 := vp_in_nI hr (by decide)
  have ec : (nI r).toNatClampNeg = r := nI_clamp (by omega)
  have g0 : ¬ pc_P (R r) p → post 0 := fun n => h0 (pc_Hf n)
  have g1 : pc_P (R r) p → post 1 := fun n => h1 (pc_Ht n)
  unfold wpX_holds
  dsimp only
  rw [ec, ea, eb, ed]
  refine nm_r (pc_s6 (by omega)) (nm_r (pc_hi (by omega)) (nm_r (pc_and7 (by omega)) ⟨hi, nm_e ⟨hi, nm_e ⟨hi, ?_⟩⟩⟩))
  refine pc_pfX ba (by omega) (fun h1 => ?_) (fun n1 => br_t rfl (g0 (fun z => n1 z.1)))
  refine br_f pc_10 ?_
  refine pc_loX (by omega) ?_
  refine pk_lt (p / 8 % 8) ((R r).2.1 % 8) (fun n => g0 (fun z => absurd z.2.1 (Nat.not_le.mpr n))) (fun h2 => ?_)
  refine pc_hiX (by omega) ?_
  refine pk_lt ((R r).2.1 / 8 % 8) (p / 8 % 8) (fun n => g0 (fun z => absurd z.2.2.1 (Nat.not_le.mpr n))) (fun h3 => ?_)
  refine pc_loX (by omega) ?_
  refine pk_lt (p % 8) ((R r).2.2 % 8) (fun n => g0 (fun z => absurd z.2.2.2.1 (Nat.not_le.mpr n))) (fun h4 => ?_)
  refine pc_hiX (by omega) ?_
  exact pk_lt ((R r).2.2 / 8 % 8) (p % 8) (fun n => g0 (fun z => absurd z.2.2.2.2 (Nat.not_le.mpr n))) (fun h5 => g1 ⟨h1, h2, h3, h4, h5⟩)
theorem pc_hoY {post : Int32 → Prop} {R : Nat → Nat × Nat × Nat} {f : Int32} {a b d : Nat → Int32} (S : pc_St R a b d) (B : pc_Bd R) {r p : Nat} (hr : r < 10) (hp : p < 1024) (h1 : pc_H R p r = true → post 1) (h0 : pc_H R p r = false → post 0) : wpY_holds post (f, a, b, d) (nI r) (nI p) := by
  obtain ⟨ea, eb, ed⟩ := S r hr
  obtain ⟨ba, bb, bd⟩ := B r hr
  have hi : vp_in (nI r) 11 := vp_in_nI (by omega) (by decide)
  have ec : (nI r).toNatClampNeg = r := nI_clamp (by omega)
  have g0 : ¬ pc_P (R r) p → post 0 := fun n => h0 (pc_Hf n)
  have g1 : pc_P (R r) p → post 1 := fun n => h1 (pc_Ht n)
  unfold wpY_holds
  dsimp only
  rw [ec, ea, eb, ed]
  refine ⟨pc_64, nm_r (pc_d64 (by omega)) ⟨pc_8, pc_8, nm_r (pc_r88 (by omega)) ⟨pc_8, nm_r (pc_r8 (by omega)) ⟨hi, pc_16, nm_r (e' := nI (4 - (R r).1 / 16)) (by rw [pc_d16 (by omega), pc_4s (by omega)]) ⟨hi, pc_16, ?_⟩⟩⟩⟩⟩
  refine pk_eq (p / 64 / 2 ^ (4 - (R r).1 / 16)) ((R r).1 % 16 / 2 ^ (4 - (R r).1 / 16)) (fun h1 => ⟨hi, pc_8, ?_⟩) (fun n1 => g0 (fun z => n1 z.1)) (pc_sv (by omega) (by omega)) (by rw [pc_r16 (by omega), pc_sv (by omega) (by omega)]) (Nat.lt_of_le_of_lt (Nat.div_le_self _ _) (by omega)) (Nat.lt_of_le_of_lt (Nat.div_le_self _ _) (by omega))
  refine pk_lt (p / 8 % 8) ((R r).2.1 % 8) (fun n => g0 (fun z => absurd z.2.1 (Nat.not_le.mpr n))) (fun h2 => ⟨hi, pc_8, ?_⟩) rfl (pc_r8 (by omega))
  refine pk_lt ((R r).2.1 / 8) (p / 8 % 8) (fun n => g0 (fun z => absurd z.2.2.1 (by omega))) (fun h3 => ⟨hi, pc_8, ?_⟩) (pc_d8 (by omega)) rfl
  refine pk_lt (p % 8) ((R r).2.2 % 8) (fun n => g0 (fun z => absurd z.2.2.2.1 (Nat.not_le.mpr n))) (fun h4 => ⟨hi, pc_8, pc_8, ?_⟩) rfl (pc_r8 (by omega))
  exact pk_lt ((R r).2.2 / 8 % 8) (p % 8) (fun n => g0 (fun z => absurd z.2.2.2.2 (Nat.not_le.mpr n))) (fun h5 => g1 ⟨h1, h2, by omega, h4, h5⟩) (pc_r88 (by omega)) rfl
/-- the decider of packet p, and the next one behind r -/
noncomputable def pc_D (R : Nat → Nat × Nat × Nat) (c p : Nat) : Int32 := pc_F (pc_H R p) c 0
noncomputable def pc_E (R : Nat → Nat × Nat × Nat) (c r p : Nat) : Int32 := pc_F (pc_H R p) (c - (r + 1)) (r + 1)
theorem pc_Dr (R : Nat → Nat × Nat × Nat) (c p : Nat) : pc_D R c p = -4 ∨ ∃ k, k < c ∧ pc_D R c p = nI k := by
  cases pc_Fr (pc_H R p) c 0 with
  | inl e => exact Or.inl e
  | inr e => obtain ⟨k, hk, e⟩ := e; exact Or.inr ⟨k, by omega, e⟩
theorem pc_Er (R : Nat → Nat × Nat × Nat) {c r : Nat} (hr : r < c) (p : Nat) : pc_E R c r p = -4 ∨ ∃ k, k < c ∧ pc_E R c r p = nI k := by
  cases pc_Fr (pc_H R p) (c - (r + 1)) (r + 1) with
  | inl e => exact Or.inl e
  | inr e => obtain ⟨k, hk, e⟩ := e; exact Or.inr ⟨k, by omega, e⟩
theorem pc_fiX {post : Int32 → Prop} {R : Nat → Nat × Nat × Nat} {a b d : Nat → Int32} {c p : Nat} (S : pc_St R a b d) (B : pc_Bd R) (hc : c ≤ 10) (hp : p < 1024) : ∀ n i, i + n = c → post (pc_F (pc_H R p) n i) → wX_firstHolding_2 post (nI p) (nI c) a b d (n + 1) (nI i) := by
  intro n
  induction n with
  | zero => intro i hi h; exact br_t (nI_le (by omega) (by omega)) h
  | succ n ih =>
    intro i hi h
    refine br_f (nI_ge (by omega) (by omega)) (pc_hoX S B (by omega) hp (fun e => ?_) (fun e => ?_))
    · rw [pc_Ft e] at h; exact br_f pc_10 h
    · rw [pc_Ff e] at h; exact br_t rfl (nm_r (nI_1 i) (ih (i + 1) (by omega) h))
theorem pc_fiY {post : Int32 → Prop} {R : Nat → Nat × Nat × Nat} {a b d : Nat → Int32} {c p : Nat} (S : pc_St R a b d) (B : pc_Bd R) (hc : c ≤ 10) (hp : p < 1024) : ∀ n i, i + n = c → post (pc_F (pc_H R p) n i) → wY_first_2 post (nI p) (nI c) a b d (n + 1) (nI i) := by
  intro n
  induction n with
  | zero => intro i hi h; exact br_t (nI_le (by omega) (by omega)) h
  | succ n ih =>
    intro i hi h
    refine br_f (nI_ge (by omega) (by omega)) (pc_hoY S B (by omega) hp (fun e => ?_) (fun e => ?_))
    · rw [pc_Ft e] at h; exact br_f pc_10 h
    · rw [pc_Ff e] at h; exact br_t rfl (nm_r (nI_1 i) (ih (i + 1) (by omega) h))
theorem pc_f0X {post : Int32 → Prop} {R : Nat → Nat × Nat × Nat} {a b d : Nat → Int32} {c p : Nat} (S : pc_St R a b d) (B : pc_Bd R) (hc : c ≤ 10) (hp : p < 1024) (h : post (pc_D R c p)) : wpX_firstHolding post (nI c, a, b, d) (nI p) 0 := by
  have g := pc_fiX S B hc hp c 0 (by omega) h
  rw [nI_0] at g
  exact ⟨_, g⟩
theorem pc_f0Y {post : Int32 → Prop} {R : Nat → Nat × Nat × Nat} {a b d : Nat → Int32} {c p : Nat} (S : pc_St R a b d) (B : pc_Bd R) (hc : c ≤ 10) (hp : p < 1024) (h : post (pc_D R c p)) : wpY_first post (nI c, a, b, d) 0 (nI p) := by
  have g := pc_fiY S B hc hp c 0 (by omega) h
  rw [nI_0] at g
  exact ⟨_, g⟩
theorem pc_f1X {post : Int32 → Prop} {R : Nat → Nat × Nat × Nat} {a b d : Nat → Int32} {c p r : Nat} (S : pc_St R a b d) (B : pc_Bd R) (hc : c ≤ 10) (hp : p < 1024) (hr : r < c) (h : post (pc_E R c r p)) : wpX_firstHolding post (nI c, a, b, d) (nI p) (nI r + 1) := by
  have g := pc_fiX S B hc hp (c - (r + 1)) (r + 1) (by omega) h
  rw [nI_1]
  exact ⟨_, g⟩
theorem pc_f1Y {post : Int32 → Prop} {R : Nat → Nat × Nat × Nat} {a b d : Nat → Int32} {c p r : Nat} (S : pc_St R a b d) (B : pc_Bd R) (hc : c ≤ 10) (hp : p < 1024) (hr : r < c) (h : post (pc_E R c r p)) : wpY_first post (nI c, a, b, d) (nI r + 1) (nI p) := by
  have g := pc_fiY S B hc hp (c - (r + 1)) (r + 1) (by omega) h
  rw [nI_1]
  exact ⟨_, g⟩
theorem pc_irX1 {post : Int32 → Prop} {a b d : Nat → Int32} {c k : Nat} (hk : k < c) (hc : c ≤ 10) (h : post 1) : wpX_isRule post (nI c, a, b, d) (nI k) := br_f (nI_pos (by omega)) (br_f (nI_ge hk (by omega)) h)
theorem pc_irX0 {post : Int32 → Prop} {f : Int32} {a b d : Nat → Int32} {r : Int32} (hr : r < 0 ∨ f ≤ r) (h : post 0) : wpX_isRule post (f, a, b, d) r := by
  by_cases z : r < 0
  · exact br_t z h
  · exact br_f z (br_t (hr.resolve_left z) h)
theorem pc_irY1 {post : Int32 → Prop} {a b d : Nat → Int32} {c k : Nat} (hk : k < c) (hc : c ≤ 10) (h : post 1) : wpY_isRule post (nI c, a, b, d) (nI k) := br_f (nI_pos (by omega)) (br_f (nI_ge hk (by omega)) h)
theorem pc_irY0 {post : Int32 → Prop} {f : Int32} {a b d : Nat → Int32} {r : Int32} (hr : r < 0 ∨ f ≤ r) (h : post 0) : wpY_isRule post (f, a, b, d) r := by
  by_cases z : r < 0
  · exact br_t z h
  · exact br_f z (br_t (hr.resolve_left z) h)
theorem pc_ru (v : Int32) {c : Nat} (hc : c ≤ 10) : (v < 0 ∨ nI c ≤ v) ∨ ∃ k, k < c ∧ v = nI k := by
  cases pk_ix v (n := c) (by omega) with
  | inl h => exact Or.inl (Or.inl h)
  | inr h => cases h with
    | inl h => exact Or.inl (Or.inr h)
    | inr h => exact Or.inr h
theorem pc_pa (v : Int32) : (v < 0 ∨ nI 1024 ≤ v) ∨ ∃ k, k < 1024 ∧ v = nI k := by
  cases pk_ix v (n := 1024) (by omega) with
  | inl h => exact Or.inl (Or.inl h)
  | inr h => cases h with
    | inl h => exact Or.inl (Or.inr h)
    | inr h => exact Or.inr h
theorem pc_ipX1 {post : Int32 → Prop} {p : Nat} (hp : p < 1024) (h : post 1) : wpX_isPacket post (nI p) := br_f (nI_pos (by omega)) (br_f (pc_n1024 hp) h)
theorem pc_ipX0 {post : Int32 → Prop} {v : Int32} (hv : v < 0 ∨ nI 1024 ≤ v) (h : post 0) : wpX_isPacket post v := by
  by_cases z : v < 0
  · exact br_t z h
  · exact br_f z (br_t (hv.resolve_left z) h)
theorem pc_ipY1 {post : Int32 → Prop} {f : Int32} {a b d : Nat → Int32} {p : Nat} (hp : p < 1024) (h : post 1) : wpY_isPacket post (f, a, b, d) (nI p) := br_f (nI_pos (by omega)) (br_f (nI_nlt (a := 1023) (by omega) (by decide)) h)
theorem pc_ipY0 {post : Int32 → Prop} {f : Int32} {a b d : Nat → Int32} {v : Int32} (hv : v < 0 ∨ nI 1024 ≤ v) (h : post 0) : wpY_isPacket post (f, a, b, d) v := by
  by_cases z : v < 0
  · exact br_t z h
  · obtain ⟨j, hj, rfl⟩ := nI_of z
    have g := (nI_leI (a := 1024) (b := j) (by decide) hj).mp (hv.resolve_left z)
    exact br_f z (br_t (nI_lt (a := 1023) (b := j) (by omega) hj) h)
/-- the action of rule r, or NONE -/
def pc_A (R : Nat → Nat × Nat × Nat) (r : Int32) : Int32 := if r < 0 then -4 else nI ((R r.toNatClampNeg).2.2 / 64)
theorem pc_A0 (R : Nat → Nat × Nat × Nat) : pc_A R (-4) = -4 := if_pos pc_m4
theorem pc_A1 (R : Nat → Nat × Nat × Nat) {k : Nat} (hk : k < 10) : pc_A R (nI k) = nI ((R k).2.2 / 64) := by
  unfold pc_A
  rw [if_neg (nI_pos (by omega)), nI_clamp (by omega)]
theorem pc_acX {post : Int32 → Prop} {R : Nat → Nat × Nat × Nat} {a b d : Nat → Int32} {c : Nat} {r : Int32} (S : pc_St R a b d) (B : pc_Bd R) (hc : c ≤ 10) (hr : r = -4 ∨ ∃ k, k < c ∧ r = nI k) (h : post (pc_A R r)) : wpX_actionOrNone post (nI c, a, b, d) r := by
  unfold wpX_actionOrNone
  dsimp only
  cases hr with
  | inl e =>
    subst e
    rw [pc_A0] at h
    exact pc_irX0 (Or.inl pc_m4) (br_t rfl h)
  | inr e =>
    obtain ⟨k, hk, rfl⟩ := e
    rw [pc_A1 R (by omega)] at h
    refine pc_irX1 hk hc (br_f pc_10 ⟨vp_in_nI (by omega) (by decide), ?_⟩)
    have hb := (B k (by omega)).2.2
    rw [nI_clamp (by omega), (S k (by omega)).2.2, pc_s6 (by omega)]
    exact h
theorem pc_acY {post : Int32 → Prop} {R : Nat → Nat × Nat × Nat} {a b d : Nat → Int32} {c : Nat} {r f : Int32} (S : pc_St R a b d) (B : pc_Bd R) (hc : c ≤ 10) (hr : r = -4 ∨ ∃ k, k < c ∧ r = nI k) (h : post (pc_A R r)) : wpY_actionOf post (f, a, b, d) r := by
  unfold wpY_actionOf
  dsimp only
  cases hr with
  | inl e =>
    subst e
    rw [pc_A0] at h
    exact br_f pc_m4' h
  | inr e =>
    obtain ⟨k, hk, rfl⟩ := e
    rw [pc_A1 R (by omega)] at h
    refine br_t (nI_pos' (by omega)) ⟨vp_in_nI (by omega) (by decide), pc_64, ?_⟩
    have hb := (B k (by omega)).2.2
    rw [nI_clamp (by omega), (S k (by omega)).2.2, pc_d64 (by omega)]
    exact h
theorem pc_anY {post : Int32 → Prop} {R : Nat → Nat × Nat × Nat} {a b d : Nat → Int32} {c p : Nat} (S : pc_St R a b d) (B : pc_Bd R) (hc : c ≤ 10) (hp : p < 1024) (h : post (pc_A R (pc_D R c p))) : wpY_action post (nI c, a, b, d) (nI p) := by
  unfold wpY_action
  dsimp only
  exact pc_ipY1 hp (br_f pc_10 (pc_f0Y S B hc hp (pc_acY S B hc (pc_Dr R c p) h)))
end
section
noncomputable def pc_fH (R : Nat → Nat × Nat × Nat) (p r : Nat) (x : Int32) : Int32 := match pc_H R p r with | true => x ||| ((1 : Int32) <<< (nI r &&& 31)) | false => x
noncomputable def pc_fC (R : Nat → Nat × Nat × Nat) (p r : Nat) (x : Int32) : Int32 := match pc_H R p r with | true => x + 1 | false => x
noncomputable def pc_fR (R : Nat → Nat × Nat × Nat) (r p : Nat) (x : Int32) : Int32 := match pc_H R p r with | true => x + 1 | false => x
noncomputable def pc_fD (R : Nat → Nat × Nat × Nat) (c : Nat) (q : Int32) (p : Nat) (x : Int32) : Int32 := if pc_D R c p = q then x + 1 else x
noncomputable def pc_fA (R : Nat → Nat × Nat × Nat) (c : Nat) (q : Int32) (p : Nat) (x : Int32) : Int32 := if pc_A R (pc_D R c p) = q then x + 1 else x
noncomputable def pc_cd (R : Nat → Nat × Nat × Nat) (c : Nat) (q : Int32) : Int32 := pc_I (pc_fD R c q) 1024 0 0
noncomputable def pc_fI (R : Nat → Nat × Nat × Nat) (c r : Nat) (x : Int32) : Int32 := if pc_cd R c (nI r) = 0 then x + 1 else x
noncomputable def pc_fW (R : Nat → Nat × Nat × Nat) (c r p : Nat) (x : Int32) : Int32 := if pc_D R c p = nI r then (if pc_A R (pc_E R c r p) = pc_A R (nI r) then x else x + 1) else x
noncomputable def pc_cn (R : Nat → Nat × Nat × Nat) (c p : Nat) : Int32 := pc_I (pc_fC R p) c 0 0
noncomputable def pc_fM (R : Nat → Nat × Nat × Nat) (c p : Nat) (x : Int32) : Int32 := if pc_cn R c p ≤ x then x else pc_cn R c p
noncomputable def pc_N (R : Nat → Nat × Nat × Nat) (c : Nat) (q : Int32) : Nat → Nat → Int32
  | 0, _ => -4
  | n + 1, i => if pc_D R c i = q then nI i else pc_N R c q n (i + 1)
theorem pc_Nt {R : Nat → Nat × Nat × Nat} {c n i : Nat} {q : Int32} (h : pc_D R c i = q) : pc_N R c q (n + 1) i = nI i := by rw [pc_N, if_pos h]
theorem pc_Nf {R : Nat → Nat × Nat × Nat} {c n i : Nat} {q : Int32} (h : ¬ pc_D R c i = q) : pc_N R c q (n + 1) i = pc_N R c q n (i + 1) := by rw [pc_N, if_neg h]
theorem pc_fW0 {R : Nat → Nat × Nat × Nat} {c r p : Nat} {x : Int32} (h : ¬ pc_D R c p = nI r) : pc_fW R c r p x = x := if_neg h
theorem pc_fW1 {R : Nat → Nat × Nat × Nat} {c r p : Nat} {x : Int32} (h : pc_D R c p = nI r) (g : pc_A R (pc_E R c r p) = pc_A R (nI r)) : pc_fW R c r p x = x := (if_pos h).trans (if_pos g)
theorem pc_fW2 {R : Nat → Nat × Nat × Nat} {c r p : Nat} {x : Int32} (h : pc_D R c p = nI r) (g : ¬ pc_A R (pc_E R c r p) = pc_A R (nI r)) : pc_fW R c r p x = x + 1 := (if_pos h).trans (if_neg g)
theorem pc_hgX {post : Int32 → Prop} {R : Nat → Nat × Nat × Nat} {a b d : Nat → Int32} {c : Nat} (S : pc_St R a b d) (B : pc_Bd R) (hc : c ≤ 10) {p : Nat} (hp : p < 1024) : ∀ n i x, i + n = c → post (pc_I (pc_fH R p) n i x) → wX_holding_13 post (nI p) (nI c) a b d (n + 1) x (nI i) := by
  intro n
  induction n with
  | zero =>
    intro i x hi h
    exact br_t (nI_le (by omega) (by omega)) h
  | succ n ih =>
    intro i x hi h
    exact br_f (nI_ge (by omega) (by omega)) (pc_hoX S B (by omega) hp (fun e => br_f pc_10 (nm_e (nm_r (nI_1 i) (ih _ _ (by omega) (pc_Is (by simp only [pc_fH, e]) h))))) (fun e => br_t rfl (nm_r (nI_1 i) (ih _ _ (by omega) (pc_Is (by simp only [pc_fH, e]) h)))))
theorem pc_reX {post : Int32 → Prop} {R : Nat → Nat × Nat × Nat} {a b d : Nat → Int32} {c : Nat} (S : pc_St R a b d) (B : pc_Bd R) (hc : c ≤ 10) {r : Nat} (hr : r < c) : ∀ n i x, i + n = 1024 → post (pc_I (pc_fR R r) n i x) → wX_reach_15 post (nI r) (nI c) a b d (n + 1) x (nI i) := by
  intro n
  induction n with
  | zero =>
    intro i x hi h
    obtain rfl : i = 1024 := by omega
    exact br_t pc_1024 h
  | succ n ih =>
    intro i x hi h
    exact br_f (pc_n1024 (by omega)) (pc_hoX S B (by omega) (by omega) (fun e => br_f pc_10 (nm_e (nm_r (nI_1 i) (ih _ _ (by omega) (pc_Is (by simp only [pc_fR, e]) h))))) (fun e => br_t rfl (nm_r (nI_1 i) (ih _ _ (by omega) (pc_Is (by simp only [pc_fR, e]) h)))))
theorem pc_cdX {post : Int32 → Prop} {R : Nat → Nat × Nat × Nat} {a b d : Nat → Int32} {c : Nat} (S : pc_St R a b d) (B : pc_Bd R) (hc : c ≤ 10) (q : Int32) : ∀ n i x, i + n = 1024 → post (pc_I (pc_fD R c q) n i x) → wX_countDecidedBy_4 post q (nI c) a b d (n + 1) x (nI i) := by
  intro n
  induction n with
  | zero =>
    intro i x hi h
    obtain rfl : i = 1024 := by omega
    exact br_t pc_1024 h
  | succ n ih =>
    intro i x hi h
    exact br_f (pc_n1024 (by omega)) (pc_f0X S B hc (by omega) (br_c (fun e => nm_e (nm_r (nI_1 i) (ih _ _ (by omega) (pc_Is (if_pos e) h)))) (fun e => nm_r (nI_1 i) (ih _ _ (by omega) (pc_Is (if_neg e) h)))))
theorem pc_atX {post : Int32 → Prop} {R : Nat → Nat × Nat × Nat} {a b d : Nat → Int32} {c : Nat} (S : pc_St R a b d) (B : pc_Bd R) (hc : c ≤ 10) (q : Int32) : ∀ n i x, i + n = 1024 → post (pc_I (pc_fA R c q) n i x) → wX_acted_15 post q (nI c) a b d (n + 1) x (nI i) := by
  intro n
  induction n with
  | zero =>
    intro i x hi h
    obtain rfl : i = 1024 := by omega
    exact br_t pc_1024 h
  | succ n ih =>
    intro i x hi h
    exact br_f (pc_n1024 (by omega)) (pc_f0X S B hc (by omega) (pc_acX S B hc (pc_Dr R c i) (br_c (fun e => nm_e (nm_r (nI_1 i) (ih _ _ (by omega) (pc_Is (if_pos e) h)))) (fun e => nm_r (nI_1 i) (ih _ _ (by omega) (pc_Is (if_neg e) h))))))
theorem pc_cpdX {post : Int32 → Prop} {R : Nat → Nat × Nat × Nat} {a b d : Nat → Int32} {c : Nat} (S : pc_St R a b d) (B : pc_Bd R) (hc : c ≤ 10) (q : Int32) (h : post (pc_cd R c q)) : wpX_countDecidedBy post (nI c, a, b, d) q := by
  have g := pc_cdX S B hc q 1024 0 0 (by omega) h
  rw [nI_0] at g
  exact ⟨_, g⟩
theorem pc_idX {post : Int32 → Prop} {R : Nat → Nat × Nat × Nat} {a b d : Nat → Int32} {c : Nat} (S : pc_St R a b d) (B : pc_Bd R) (hc : c ≤ 10) : ∀ n i x, i + n = c → post (pc_I (pc_fI R c) n i x) → wX_idle_4 post (nI c) a b d (n + 1) x (nI i) := by
  intro n
  induction n with
  | zero =>
    intro i x hi h
    exact br_t (nI_le (by omega) (by omega)) h
  | succ n ih =>
    intro i x hi h
    exact br_f (nI_ge (by omega) (by omega)) (pc_cpdX S B hc _ (br_c (fun e => nm_e (nm_r (nI_1 i) (ih _ _ (by omega) (pc_Is (if_pos e) h)))) (fun e => nm_r (nI_1 i) (ih _ _ (by omega) (pc_Is (if_neg e) h)))))
theorem pc_chX {post : Int32 → Prop} {R : Nat → Nat × Nat × Nat} {a b d : Nat → Int32} {c : Nat} (S : pc_St R a b d) (B : pc_Bd R) (hc : c ≤ 10) {p : Nat} (hp : p < 1024) : ∀ n i x, i + n = c → post (pc_I (pc_fC R p) n i x) → wX_countHolding_4 post (nI p) (nI c) a b d (n + 1) x (nI i) := by
  intro n
  induction n with
  | zero =>
    intro i x hi h
    exact br_t (nI_le (by omega) (by omega)) h
  | succ n ih =>
    intro i x hi h
    exact br_f (nI_ge (by omega) (by omega)) (pc_hoX S B (by omega) hp (fun e => br_f pc_10 (nm_e (nm_r (nI_1 i) (ih _ _ (by omega) (pc_Is (by simp only [pc_fC, e]) h))))) (fun e => br_t rfl (nm_r (nI_1 i) (ih _ _ (by omega) (pc_Is (by simp only [pc_fC, e]) h)))))
theorem pc_cnX {post : Int32 → Prop} {R : Nat → Nat × Nat × Nat} {a b d : Nat → Int32} {c : Nat} (S : pc_St R a b d) (B : pc_Bd R) (hc : c ≤ 10) {p : Nat} (hp : p < 1024) (h : post (pc_cn R c p)) : wpX_countHolding post (nI c, a, b, d) (nI p) := by
  have g := pc_chX S B hc hp c 0 0 (by omega) h
  rw [nI_0] at g
  exact ⟨_, g⟩
theorem pc_deX {post : Int32 → Prop} {R : Nat → Nat × Nat × Nat} {a b d : Nat → Int32} {c : Nat} (S : pc_St R a b d) (B : pc_Bd R) (hc : c ≤ 10) : ∀ n i x, i + n = 1024 → post (pc_I (pc_fM R c) n i x) → wX_deepest_4 post (nI c) a b d (n + 1) x (nI i) := by
  intro n
  induction n with
  | zero =>
    intro i x hi h
    obtain rfl : i = 1024 := by omega
    exact br_t pc_1024 h
  | succ n ih =>
    intro i x hi h
    exact br_f (pc_n1024 (by omega)) (pc_cnX S B hc (by omega) (br_c (fun e => nm_r (nI_1 i) (ih _ _ (by omega) (pc_Is (if_pos e) h))) (fun e => nm_r (nI_1 i) (ih _ _ (by omega) (pc_Is (if_neg e) h)))))
theorem pc_weX {post : Int32 → Prop} {R : Nat → Nat × Nat × Nat} {a b d : Nat → Int32} {c : Nat} (S : pc_St R a b d) (B : pc_Bd R) (hc : c ≤ 10) {r : Nat} (hr : r < c) : ∀ n i x, i + n = 1024 → post (pc_I (pc_fW R c r) n i x) → wX_weight_15 post (nI r) (nI c) a b d (n + 1) x (nI i) := by
  intro n
  induction n with
  | zero =>
    intro i x hi h
    obtain rfl : i = 1024 := by omega
    exact br_t pc_1024 h
  | succ n ih =>
    intro i x hi h
    exact br_f (pc_n1024 (by omega)) (pc_f0X S B hc (by omega) (br_c (fun e => pc_f1X S B hc (by omega) hr (pc_acX S B hc (pc_Er R hr i) (pc_acX S B hc (Or.inr ⟨r, hr, rfl⟩) (br_c (fun g => nm_r (nI_1 i) (ih _ _ (by omega) (pc_Is (pc_fW1 e g) h))) (fun g => nm_e (nm_r (nI_1 i) (ih _ _ (by omega) (pc_Is (pc_fW2 e g) h)))))))) (fun e => nm_r (nI_1 i) (ih _ _ (by omega) (pc_Is (pc_fW0 e) h)))))
theorem pc_hgY {post : Int32 → Prop} {R : Nat → Nat × Nat × Nat} {a b d : Nat → Int32} {c : Nat} (S : pc_St R a b d) (B : pc_Bd R) (hc : c ≤ 10) {p : Nat} (hp : p < 1024) : ∀ n i x, i + n = c → post (pc_I (pc_fH R p) n i x) → wY_holding_14 post (nI p) (nI c) a b d (n + 1) x (nI i) := by
  intro n
  induction n with
  | zero =>
    intro i x hi h
    exact br_t (nI_le (by omega) (by omega)) h
  | succ n ih =>
    intro i x hi h
    exact br_f (nI_ge (by omega) (by omega)) (pc_hoY S B (by omega) hp (fun e => br_f pc_10 (nm_e (nm_r (nI_1 i) (ih _ _ (by omega) (pc_Is (by simp only [pc_fH, e]) h))))) (fun e => br_t rfl (nm_r (nI_1 i) (ih _ _ (by omega) (pc_Is (by simp only [pc_fH, e]) h)))))
theorem pc_reY {post : Int32 → Prop} {R : Nat → Nat × Nat × Nat} {a b d : Nat → Int32} {c : Nat} (S : pc_St R a b d) (B : pc_Bd R) (hc : c ≤ 10) {r : Nat} (hr : r < c) : ∀ n i x, i + n = 1024 → post (pc_I (pc_fR R r) n i x) → wY_reach_15 post (nI r) (nI c) a b d (n + 1) x (nI i) := by
  intro n
  induction n with
  | zero =>
    intro i x hi h
    obtain rfl : i = 1024 := by omega
    exact br_t pc_1024 h
  | succ n ih =>
    intro i x hi h
    exact br_f (pc_n1024 (by omega)) (pc_hoY S B (by omega) (by omega) (fun e => br_f pc_10 (nm_e (nm_r (nI_1 i) (ih _ _ (by omega) (pc_Is (by simp only [pc_fR, e]) h))))) (fun e => br_t rfl (nm_r (nI_1 i) (ih _ _ (by omega) (pc_Is (by simp only [pc_fR, e]) h)))))
theorem pc_cdY {post : Int32 → Prop} {R : Nat → Nat × Nat × Nat} {a b d : Nat → Int32} {c : Nat} (S : pc_St R a b d) (B : pc_Bd R) (hc : c ≤ 10) (q : Int32) : ∀ n i x, i + n = 1024 → post (pc_I (pc_fD R c q) n i x) → wY_decided_15 post q (nI c) a b d (n + 1) x (nI i) := by
  intro n
  induction n with
  | zero =>
    intro i x hi h
    obtain rfl : i = 1024 := by omega
    exact br_t pc_1024 h
  | succ n ih =>
    intro i x hi h
    exact br_f (pc_n1024 (by omega)) (pc_f0Y S B hc (by omega) (br_c (fun e => nm_e (nm_r (nI_1 i) (ih _ _ (by omega) (pc_Is (if_pos e) h)))) (fun e => nm_r (nI_1 i) (ih _ _ (by omega) (pc_Is (if_neg e) h)))))
theorem pc_udY {post : Int32 → Prop} {R : Nat → Nat × Nat × Nat} {a b d : Nat → Int32} {c : Nat} (S : pc_St R a b d) (B : pc_Bd R) (hc : c ≤ 10) : ∀ n i x, i + n = 1024 → post (pc_I (pc_fD R c (-4)) n i x) → wY_undecided_4 post (nI c) a b d (n + 1) x (nI i) := by
  intro n
  induction n with
  | zero =>
    intro i x hi h
    obtain rfl : i = 1024 := by omega
    exact br_t pc_1024 h
  | succ n ih =>
    intro i x hi h
    exact br_f (pc_n1024 (by omega)) (pc_f0Y S B hc (by omega) (br_c (fun e => nm_e (nm_r (nI_1 i) (ih _ _ (by omega) (pc_Is (if_pos e) h)))) (fun e => nm_r (nI_1 i) (ih _ _ (by omega) (pc_Is (if_neg e) h)))))
theorem pc_atY {post : Int32 → Prop} {R : Nat → Nat × Nat × Nat} {a b d : Nat → Int32} {c : Nat} (S : pc_St R a b d) (B : pc_Bd R) (hc : c ≤ 10) (q : Int32) : ∀ n i x, i + n = 1024 → post (pc_I (pc_fA R c q) n i x) → wY_acted_15 post q (nI c) a b d (n + 1) x (nI i) := by
  intro n
  induction n with
  | zero =>
    intro i x hi h
    obtain rfl : i = 1024 := by omega
    exact br_t pc_1024 h
  | succ n ih =>
    intro i x hi h
    exact br_f (pc_n1024 (by omega)) (pc_anY S B hc (by omega) (br_c (fun e => nm_e (nm_r (nI_1 i) (ih _ _ (by omega) (pc_Is (if_pos e) h)))) (fun e => nm_r (nI_1 i) (ih _ _ (by omega) (pc_Is (if_neg e) h)))))
theorem pc_cpdY {post : Int32 → Prop} {R : Nat → Nat × Nat × Nat} {a b d : Nat → Int32} {c : Nat} (S : pc_St R a b d) (B : pc_Bd R) (hc : c ≤ 10) {r : Nat} (hr : r < c) (h : post (pc_cd R c (nI r))) : wpY_decided post (nI c, a, b, d) (nI r) := by
  unfold wpY_decided
  dsimp only
  have g := pc_cdY S B hc (nI r) 1024 0 0 (by omega) h
  rw [nI_0] at g
  exact pc_irY1 hr hc (br_f pc_10 ⟨_, g⟩)
theorem pc_idY {post : Int32 → Prop} {R : Nat → Nat × Nat × Nat} {a b d : Nat → Int32} {c : Nat} (S : pc_St R a b d) (B : pc_Bd R) (hc : c ≤ 10) : ∀ n i x, i + n = c → post (pc_I (pc_fI R c) n i x) → wY_idle_4 post (nI c) a b d (n + 1) x (nI i) := by
  intro n
  induction n with
  | zero =>
    intro i x hi h
    exact br_t (nI_le (by omega) (by omega)) h
  | succ n ih =>
    intro i x hi h
    exact br_f (nI_ge (by omega) (by omega)) (pc_cpdY S B hc (by omega) (br_c (fun e => nm_e (nm_r (nI_1 i) (ih _ _ (by omega) (pc_Is (if_pos e) h)))) (fun e => nm_r (nI_1 i) (ih _ _ (by omega) (pc_Is (if_neg e) h)))))
theorem pc_dnY {post : Int32 → Prop} {J : Int32 → Int32 → Prop} {R : Nat → Nat × Nat × Nat} {a b d : Nat → Int32} {c p : Nat} {y : Int32} (S : pc_St R a b d) (B : pc_Bd R) (hc : c ≤ 10) (hp : p < 1024) : ∀ n i x, i + n = c → J (if pc_I (pc_fC R p) n i x ≤ y then y else pc_I (pc_fC R p) n i x) (nI (p + 1)) → wY_deepest_16 post J y (nI p) (nI c) a b d (n + 1) x (nI i) := by
  intro n
  induction n with
  | zero =>
    intro i x hi h
    refine br_t (nI_le (by omega) (by omega)) (br_c (fun e => nm_r (nI_1 p) ?_) (fun e => nm_r (nI_1 p) ?_))
    · rw [pc_I, if_pos e] at h; exact h
    · rw [pc_I, if_neg e] at h; exact h
  | succ n ih =>
    intro i x hi h
    rw [pc_I] at h
    refine br_f (nI_ge (by omega) (by omega)) (pc_hoY S B (by omega) hp (fun e => br_f pc_10 (nm_e (nm_r (nI_1 i) (ih _ _ (by omega) ?_)))) (fun e => br_t rfl (nm_r (nI_1 i) (ih _ _ (by omega) ?_))))
    · rw [show pc_fC R p i x = x + 1 from by simp only [pc_fC, e]] at h; exact h
    · rw [show pc_fC R p i x = x from by simp only [pc_fC, e]] at h; exact h
theorem pc_deY {post : Int32 → Prop} {R : Nat → Nat × Nat × Nat} {a b d : Nat → Int32} {c : Nat} (S : pc_St R a b d) (B : pc_Bd R) (hc : c ≤ 10) : ∀ n i x, i + n = 1024 → post (pc_I (pc_fM R c) n i x) → wY_deepest_4 post (nI c) a b d (n + 1) x (nI i) := by
  intro n
  induction n with
  | zero =>
    intro i x hi h
    obtain rfl : i = 1024 := by omega
    exact br_t pc_1024 h
  | succ n ih =>
    intro i x hi h
    have g := pc_dnY (post := post) (J := wY_deepest_4 post (nI c) a b d (n + 1)) (y := x) S B hc (show i < 1024 by omega) c 0 0 (by omega) (ih (i + 1) _ (by omega) h)
    rw [nI_0] at g
    exact br_f (pc_n1024 (by omega)) ⟨_, g⟩
theorem pc_weY {post : Int32 → Prop} {R : Nat → Nat × Nat × Nat} {a b d : Nat → Int32} {c : Nat} (S : pc_St R a b d) (B : pc_Bd R) (hc : c ≤ 10) {r : Nat} (hr : r < c) : ∀ n i x, i + n = 1024 → post (pc_I (pc_fW R c r) n i x) → wY_weight_15 post (nI r) (nI c) a b d (n + 1) x (nI i) := by
  intro n
  induction n with
  | zero =>
    intro i x hi h
    obtain rfl : i = 1024 := by omega
    exact br_t pc_1024 h
  | succ n ih =>
    intro i x hi h
    exact br_f (pc_n1024 (by omega)) (pc_f0Y S B hc (by omega) (br_c (fun e => pc_f1Y S B hc (by omega) hr (pc_acY S B hc (pc_Er R hr i) (pc_acY S B hc (Or.inr ⟨r, hr, rfl⟩) (br_c (fun g => nm_r (nI_1 i) (ih _ _ (by omega) (pc_Is (pc_fW1 e g) h))) (fun g => nm_e (nm_r (nI_1 i) (ih _ _ (by omega) (pc_Is (pc_fW2 e g) h)))))))) (fun e => nm_r (nI_1 i) (ih _ _ (by omega) (pc_Is (pc_fW0 e) h)))))
theorem pc_neX {post : Int32 → Prop} {R : Nat → Nat × Nat × Nat} {a b d : Nat → Int32} {c : Nat} (S : pc_St R a b d) (B : pc_Bd R) (hc : c ≤ 10) {r : Nat} (hr : r < c) : ∀ n i, n = 1024 - i → i < 2 ^ 31 → post (pc_N R c (nI r) n i) → wX_next_24 post (nI r) (nI c) a b d (n + 1) (nI i) := by
  intro n
  induction n with
  | zero =>
    intro i hi hb h
    exact br_t (nI_le (a := 1024) (by omega) hb) h
  | succ n ih =>
    intro i hi hb h
    exact br_f (pc_n1024 (by omega)) (pc_f0X S B hc (by omega) (br_c (fun e => by rw [pc_Nt e] at h; exact h) (fun e => by rw [pc_Nf e] at h; exact nm_r (nI_1 i) (ih _ (by omega) (by omega) h))))
theorem pc_neY {post : Int32 → Prop} {R : Nat → Nat × Nat × Nat} {a b d : Nat → Int32} {c : Nat} (S : pc_St R a b d) (B : pc_Bd R) (hc : c ≤ 10) {r : Nat} (hr : r < c) : ∀ n i, n = 1024 - i → i < 2 ^ 31 → post (pc_N R c (nI r) n i) → wY_next_10 post (nI r) (nI c) a b d (n + 1) (nI i) := by
  intro n
  induction n with
  | zero =>
    intro i hi hb h
    exact br_t (nI_le (a := 1024) (by omega) hb) h
  | succ n ih =>
    intro i hi hb h
    exact br_f (pc_n1024 (by omega)) (pc_irY1 hr hc (br_f pc_10 (pc_f0Y S B hc (by omega) (br_c (fun e => by rw [pc_Nt e] at h; exact h) (fun e => by rw [pc_Nf e] at h; exact nm_r (nI_1 i) (ih _ (by omega) (by omega) h))))))
end
