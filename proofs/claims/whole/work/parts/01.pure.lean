theorem pk_us {f : Nat → Int32} {k : Nat} {x : Int32} : upd f k x k = x := if_pos rfl
theorem pk_un {f : Nat → Int32} {k j : Nat} {x : Int32} (h : j ≠ k) : upd f k x j = f j := if_neg h
theorem pk_sub {a b : Nat} (h : b ≤ a) : nI a - nI b = nI (a - b) := by
  obtain ⟨c, rfl⟩ : ∃ c, a = c + b := ⟨a - b, by omega⟩
  rw [← nI_add, Int32.add_sub_cancel, Nat.add_sub_cancel]
theorem pk_m1 (n : Nat) : nI (n + 1) + (-1) = nI n := by
  rw [← nI_1, Int32.add_assoc, show (1 : Int32) + (-1) = 0 from rfl, Int32.add_zero]
theorem pk_mul (a b : Nat) : nI a * nI b = nI (a * b) := (Int32.ofNat_mul a b).symm
theorem pk_div {a d : Nat} (ha : a < 2 ^ 31) (h0 : 0 < d) (hd : d < 2 ^ 31) : nI a / nI d = nI (a / d) := by
  apply Int32.toInt_inj.mp
  rw [lg_idiv_nonneg (by rw [nI_toInt ha]; omega) (by rw [nI_toInt hd]; omega), nI_toInt ha, nI_toInt hd, nI_toInt (Nat.lt_of_le_of_lt (Nat.div_le_self a d) ha)]
  first | rfl | exact (Int.natCast_ediv _ _).symm
theorem pk_rem {a d : Nat} (ha : a < 2 ^ 31) (h0 : 0 < d) (hd : d < 2 ^ 31) : nI a - nI a / nI d * nI d = nI (a % d) := by
  rw [pk_div ha h0 hd, pk_mul, pk_sub (Nat.div_mul_le_self a d)]
  exact congrArg nI (by have := Nat.div_add_mod' a d; omega)
theorem pk_ix (x : Int32) {n : Nat} (hn : n < 2 ^ 31) : x < 0 ∨ nI n ≤ x ∨ ∃ j : Nat, j < n ∧ x = nI j := by
  by_cases h : x < 0
  · exact Or.inl h
  · obtain ⟨j, hj, rfl⟩ := nI_of h
    by_cases h2 : j < n
    · exact Or.inr (Or.inr ⟨j, h2, rfl⟩)
    · exact Or.inr (Or.inl (nI_le (by omega) hj))
theorem pk_le {x y : Int32} {A B : Prop} (a b : Nat) (f : a ≤ b → A) (g : b < a → B) (hx : x = nI a := by rfl) (hy : y = nI b := by rfl) (ha : a < 2 ^ 31 := by omega) (hb : b < 2 ^ 31 := by omega) : (x ≤ y → A) ∧ (¬ x ≤ y → B) := by
  subst hx hy
  rw [nI_leI ha hb]
  exact ⟨f, fun z => g (by omega)⟩
theorem pk_lt {x y : Int32} {A B : Prop} (a b : Nat) (f : a < b → A) (g : b ≤ a → B) (hx : x = nI a := by rfl) (hy : y = nI b := by rfl) (ha : a < 2 ^ 31 := by omega) (hb : b < 2 ^ 31 := by omega) : (x < y → A) ∧ (¬ x < y → B) := by
  subst hx hy
  rw [nI_ltI ha hb]
  exact ⟨f, fun z => g (by omega)⟩
theorem pk_eq {x y : Int32} {A B : Prop} (a b : Nat) (f : a = b → A) (g : a ≠ b → B) (hx : x = nI a := by rfl) (hy : y = nI b := by rfl) (ha : a < 2 ^ 31 := by omega) (hb : b < 2 ^ 31 := by omega) : (x = y → A) ∧ (¬ x = y → B) := by
  subst hx hy
  rw [nI_eq ha hb]
  exact ⟨f, g⟩
theorem pk_in {x : Int32} (n N : Nat) (h : n < N) (hx : x = nI n := by rfl) (hN : N < 2 ^ 31 := by omega) : vp_in x N := by
  subst hx
  exact vp_in_nI h hN
theorem pk_cl {x : Int32} (n : Nat) (hx : x = nI n := by rfl) (h : n < 2 ^ 31 := by omega) : x.toNatClampNeg = n := by
  subst hx
  exact nI_clamp h
theorem pk_tn {n : Nat} (h : n < 2 ^ 32) : (nI n).toBitVec.toNat = n := Nat.mod_eq_of_lt h
theorem pk_and (x : Int32) {m : Int32} (k : Nat) (hm : m.toBitVec.toNat = 2 ^ k - 1) : x &&& m = nI (x.toBitVec.toNat % 2 ^ k) := by
  apply Int32.toBitVec_inj.mp
  apply BitVec.eq_of_toNat_eq
  rw [Int32.toBitVec_and, BitVec.toNat_and, hm, Nat.and_two_pow_sub_one_eq_mod]
  show _ = (BitVec.ofNat 32 _).toNat
  rw [BitVec.toNat_ofNat]
  exact (Nat.mod_eq_of_lt (Nat.lt_of_le_of_lt (Nat.mod_le _ _) x.toBitVec.isLt)).symm
theorem pk_andN {n : Nat} (h : n < 2 ^ 32) {m : Int32} (k : Nat) (hm : m.toBitVec.toNat = 2 ^ k - 1) : nI n &&& m = nI (n % 2 ^ k) := by
  rw [pk_and _ k hm, pk_tn h]
theorem pk_shr (a s : Int32) (k : Nat) (hs : (s.toBitVec.smod 32).toNat = k) : (a >>> s).toInt = a.toInt >>> k := by
  show (a.toBitVec.sshiftRight (s.toBitVec.smod 32).toNat).toInt = _
  rw [hs, BitVec.toInt_sshiftRight]
  rfl
theorem pk_shrN {n : Nat} (h : n < 2 ^ 31) (s : Int32) (k : Nat) (hs : (s.toBitVec.smod 32).toNat = k) : nI n >>> s = nI (n / 2 ^ k) := by
  apply Int32.toInt_inj.mp
  have h2 : n / 2 ^ k ≤ n := Nat.div_le_self _ _
  rw [pk_shr _ _ k hs, nI_toInt h, nI_toInt (by omega), Int.shiftRight_eq_div_pow]
  rfl
theorem s_l : ∀ n, n < 32 → ((nI n &&& 31).toBitVec.smod 32).toNat = n := by decide +kernel
theorem pc_and7 {n : Nat} (h : n < 2 ^ 31) : nI n &&& 7 = nI (n % 8) := pk_andN (by omega) 3 (by decide)
theorem pc_and15 {n : Nat} (h : n < 2 ^ 31) : nI n &&& 15 = nI (n % 16) := pk_andN (by omega) 4 (by decide)
theorem pc_s3 {n : Nat} (h : n < 2 ^ 31) : nI n >>> ((3 : Int32) &&& 31) = nI (n / 8) := pk_shrN h _ 3 (by decide)
theorem pc_s4 {n : Nat} (h : n < 2 ^ 31) : nI n >>> ((4 : Int32) &&& 31) = nI (n / 16) := pk_shrN h _ 4 (by decide)
theorem pc_s6 {n : Nat} (h : n < 2 ^ 31) : nI n >>> ((6 : Int32) &&& 31) = nI (n / 64) := pk_shrN h _ 6 (by decide)
theorem pc_hi {n : Nat} (h : n < 2 ^ 31) : (nI n >>> ((3 : Int32) &&& 31)) &&& 7 = nI (n / 8 % 8) := by
  rw [pc_s3 h, pc_and7 (by omega)]
theorem pc_sv {n s : Nat} (h : n < 2 ^ 31) (hs : s < 32) : nI n >>> (nI s &&& 31) = nI (n / 2 ^ s) := pk_shrN h _ s (s_l s hs)
theorem pc_d8 {n : Nat} (h : n < 2 ^ 31) : nI n / 8 = nI (n / 8) := pk_div (d := 8) h (by decide) (by decide)
theorem pc_d16 {n : Nat} (h : n < 2 ^ 31) : nI n / 16 = nI (n / 16) := pk_div (d := 16) h (by decide) (by decide)
theorem pc_d64 {n : Nat} (h : n < 2 ^ 31) : nI n / 64 = nI (n / 64) := pk_div (d := 64) h (by decide) (by decide)
theorem pc_r8 {n : Nat} (h : n < 2 ^ 31) : nI n - nI n / 8 * 8 = nI (n % 8) := pk_rem (d := 8) h (by decide) (by decide)
theorem pc_r16 {n : Nat} (h : n < 2 ^ 31) : nI n - nI n / 16 * 16 = nI (n % 16) := pk_rem (d := 16) h (by decide) (by decide)
theorem pc_r88 {n : Nat} (h : n < 2 ^ 31) : (nI n / 8) - (nI n / 8) / 8 * 8 = nI (n / 8 % 8) := by
  rw [pc_d8 h, pc_r8 (by omega)]
theorem pc_4s {n : Nat} (h : n ≤ 4) : 4 - nI n = nI (4 - n) := pk_sub (a := 4) h
theorem pc_10 : ¬ (1 : Int32) = 0 := by decide
theorem pc_64 : ¬ (64 : Int32) = 0 := by decide
theorem pc_16 : ¬ (16 : Int32) = 0 := by decide
theorem pc_8 : ¬ (8 : Int32) = 0 := by decide
theorem pc_m4 : (-4 : Int32) < 0 := by decide
theorem pc_m4' : ¬ (0 : Int32) ≤ -4 := by decide
theorem pc_1024 : (1024 : Int32) ≤ nI 1024 := by decide
theorem pc_n1024 {i : Nat} (h : i < 1024) : ¬ (1024 : Int32) ≤ nI i := nI_ge (b := 1024) h (by decide)
/-- a rule: prefix, goals, ports and action; the rules by their numbers -/
def pc_Bd (R : Nat → Nat × Nat × Nat) : Prop := ∀ j, j < 10 → (R j).1 < 80 ∧ (R j).2.1 < 64 ∧ (R j).2.2 < 256
def pc_St (R : Nat → Nat × Nat × Nat) (a b d : Nat → Int32) : Prop := ∀ j, j < 10 → a j = nI (R j).1 ∧ b j = nI (R j).2.1 ∧ d j = nI (R j).2.2
def pc_up (R : Nat → Nat × Nat × Nat) (i : Nat) (q : Nat × Nat × Nat) : Nat → Nat × Nat × Nat := fun j => if j = i then q else R j
/-- does rule r hold for packet p -/
def pc_P (q : Nat × Nat × Nat) (p : Nat) : Prop := p / 64 / 2 ^ (4 - q.1 / 16) = q.1 % 16 / 2 ^ (4 - q.1 / 16) ∧ q.2.1 % 8 ≤ p / 8 % 8 ∧ p / 8 % 8 ≤ q.2.1 / 8 % 8 ∧ q.2.2 % 8 ≤ p % 8 ∧ p % 8 ≤ q.2.2 / 8 % 8
noncomputable def pc_H (R : Nat → Nat × Nat × Nat) (p r : Nat) : Bool := @decide (pc_P (R r) p) (Classical.propDecidable _)
theorem pc_Ht {R : Nat → Nat × Nat × Nat} {p r : Nat} (h : pc_P (R r) p) : pc_H R p r = true := @decide_eq_true _ (Classical.propDecidable _) h
theorem pc_Hf {R : Nat → Nat × Nat × Nat} {p r : Nat} (h : ¬ pc_P (R r) p) : pc_H R p r = false := @decide_eq_false _ (Classical.propDecidable _) h
/-- the answer of a test -/
def pc_b (b : Bool) : Int32 := match b with | true => 1 | false => 0
/-- the first number, from i on, of n, at which g holds -/
def pc_F (g : Nat → Bool) : Nat → Nat → Int32
  | 0, _ => -4
  | n + 1, i => match g i with | true => nI i | false => pc_F g n (i + 1)
theorem pc_Ft {g : Nat → Bool} {n i : Nat} (h : g i = true) : pc_F g (n + 1) i = nI i := by rw [pc_F, h]
theorem pc_Ff {g : Nat → Bool} {n i : Nat} (h : g i = false) : pc_F g (n + 1) i = pc_F g n (i + 1) := by rw [pc_F, h]
theorem pc_Fr (g : Nat → Bool) : ∀ n i, pc_F g n i = -4 ∨ ∃ k, k < i + n ∧ pc_F g n i = nI k := by
  intro n
  induction n with
  | zero => intro i; exact Or.inl rfl
  | succ n ih =>
    intro i
    cases h : g i with
    | true => exact Or.inr ⟨i, by omega, pc_Ft h⟩
    | false =>
      rw [pc_Ff h]
      cases ih (i + 1) with
      | inl e => exact Or.inl e
      | inr e => obtain ⟨k, hk, e⟩ := e; exact Or.inr ⟨k, by omega, e⟩
/-- n steps of f, from number i on -/
def pc_I (f : Nat → Int32 → Int32) : Nat → Nat → Int32 → Int32
  | 0, _, x => x
  | n + 1, i, x => pc_I f n (i + 1) (f i x)
theorem pc_Is {f : Nat → Int32 → Int32} {n i : Nat} {x y : Int32} {post : Int32 → Prop} (e : f i x = y) (h : post (pc_I f (n + 1) i x)) : post (pc_I f n (i + 1) y) := by
  rw [← e]; exact h
