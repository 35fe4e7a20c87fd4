/-- the same rules on both sides, numbered alike; the reference's cell 10 is free -/
def i_Rel (_ : Nat) (u : SX) (v : SY) : Prop := ∃ (c : Nat) (R : Nat → Nat × Nat × Nat) (a b d a' b' d' : Nat → Int32), c ≤ 10 ∧ pc_Bd R ∧ pc_St R a b d ∧ pc_St R a' b' d' ∧ u = (nI c, a, b, d) ∧ v = (nI c, a', b', d')
theorem i_up {k : Nat} {u : SX} {v : SY} (h : i_Rel k u v) : i_Rel (k + 5) u v := h
theorem i_vc0 : wpX_init (fun u => wpY_init (fun v => i_Rel 0 u v)) := ⟨0, fun _ => (0, 0, 0), fun _ => 0, fun _ => 0, fun _ => 0, fun _ => 0, fun _ => 0, fun _ => 0, by omega, fun _ _ => ⟨Nat.zero_lt_succ 79, Nat.zero_lt_succ 63, Nat.zero_lt_succ 255⟩, fun _ _ => ⟨rfl, rfl, rfl⟩, fun _ _ => ⟨rfl, rfl, rfl⟩, rfl, rfl⟩
theorem i_vc_insert {k : Nat} {u : SX} {v : SY} (I : i_Rel k u v) (hk : k + 5 ≤ 2560) (v1 : Int32) (v2 : Int32) (v3 : Int32) (v4 : Int32) : wpX_insert (fun r u' => wpY_insert (fun r' v' => r' = r ∧ i_Rel (k + 5) u' v') v v1 v2 v3 v4) u v1 v2 v3 v4 := by
  obtain ⟨c, R, a, b, d, a', b', d', hc, B, S, S', rfl, rfl⟩ := I
  have J : i_Rel (k + 5) (nI c, a, b, d) (nI c, a', b', d') := ⟨c, R, a, b, d, a', b', d', hc, B, S, S', rfl, rfl⟩
  by_cases g : pc_ok c v1 v2 v3 v4
  · obtain ⟨t, p, g, q, rfl, rfl, rfl, rfl, h1, h3, h5, h6, h8, h9⟩ := g
    refine pc_i1X S hc h1 h3 h5 h6 h8 h9 (fun e => pc_i1Y S' hc h1 h3 h5 h6 h8 h9 (fun _ => ⟨rfl, J⟩) (fun z => absurd e (by omega))) (fun e x y z T => pc_i1Y S' hc h1 h3 h5 h6 h8 h9 (fun z => absurd e (by omega)) (fun _ x' y' z' T' => ⟨rfl, ?_⟩))
    exact ⟨c + 1, _, x, y, z, x', y', z', by omega, pc_Bu (pc_Bsh t (c - t) R (by omega) B) ⟨h3, h5, h8⟩, T, T', rfl, rfl⟩
  · exact pc_i0X hc g (pc_i0Y hc g ⟨rfl, J⟩)
theorem i_vc_remove {k : Nat} {u : SX} {v : SY} (I : i_Rel k u v) (hk : k + 5 ≤ 2560) (v1 : Int32) : wpX_remove (fun r u' => wpY_remove (fun r' v' => r' = r ∧ i_Rel (k + 5) u' v') v v1) u v1 := by
  obtain ⟨c, R, a, b, d, a', b', d', hc, B, S, S', rfl, rfl⟩ := I
  have J : i_Rel (k + 5) (nI c, a, b, d) (nI c, a', b', d') := ⟨c, R, a, b, d, a', b', d', hc, B, S, S', rfl, rfl⟩
  unfold wpX_remove wpY_remove
  dsimp only
  cases pc_ru v1 hc with
  | inl h => exact pc_irX0 h (br_t rfl (pc_irY0 h (br_t rfl ⟨rfl, J⟩)))
  | inr h =>
    obtain ⟨r, hr, rfl⟩ := h
    obtain ⟨e, rfl⟩ : ∃ e, c = e + 1 := ⟨c - 1, by omega⟩
    refine pc_irX1 hr hc (br_f pc_10 ⟨_, pc_rmX (by omega) (e - r) r R a b d S (by omega) (fun x y z T => ?_)⟩)
    refine pc_irY1 hr hc (br_f pc_10 (nm_r (nI_pred e) ⟨_, pc_rmY (by omega) (e - r) r R a' b' d' S' (by omega) (fun x' y' z' T' => ⟨rfl, ?_⟩)⟩))
    exact ⟨e, _, x, y, z, x', y', z', by omega, pc_Brm (e - r) r R (by omega) B, T, T', rfl, rfl⟩
theorem i_vc_swap {k : Nat} {u : SX} {v : SY} (I : i_Rel k u v) (hk : k + 5 ≤ 2560) (v1 : Int32) (v2 : Int32) : wpX_swap (fun r u' => wpY_swap (fun r' v' => r' = r ∧ i_Rel (k + 5) u' v') v v1 v2) u v1 v2 := by
  obtain ⟨c, R, a, b, d, a', b', d', hc, B, S, S', rfl, rfl⟩ := I
  have J : i_Rel (k + 5) (nI c, a, b, d) (nI c, a', b', d') := ⟨c, R, a, b, d, a', b', d', hc, B, S, S', rfl, rfl⟩
  cases pc_ru v1 hc with
  | inl h =>
    unfold wpX_swap wpY_swap
    dsimp only
    exact pc_irX0 h (br_t rfl (pc_irY0 h (br_t rfl ⟨rfl, J⟩)))
  | inr h =>
    obtain ⟨r, hr, rfl⟩ := h
    cases pc_ru v2 hc with
    | inl h =>
      unfold wpX_swap wpY_swap
      dsimp only
      exact pc_irX1 hr hc (br_f pc_10 (pc_irX0 h (br_t rfl (pc_irY1 hr hc (br_f pc_10 (pc_irY0 h (br_t rfl ⟨rfl, J⟩)))))))
    | inr h =>
      obtain ⟨s, hs, rfl⟩ := h
      refine pc_swX S hc hr hs (fun x y z T => pc_swY S' hc hr hs (fun x' y' z' T' => ⟨rfl, ?_⟩))
      exact ⟨c, _, x, y, z, x', y', z', hc, pc_Bu (pc_Bu B (B s (by omega))) (B r (by omega)), T, T', rfl, rfl⟩
theorem i_vc_rules {k : Nat} {u : SX} {v : SY} (I : i_Rel k u v) (hk : k + 5 ≤ 2560) : wpX_rules (fun r => wpY_rules (fun r' => r' = r ∧ i_Rel (k + 5) u v) v) u := by
  obtain ⟨c, R, a, b, d, a', b', d', hc, B, S, S', rfl, rfl⟩ := I
  have J : i_Rel (k + 5) (nI c, a, b, d) (nI c, a', b', d') := ⟨c, R, a, b, d, a', b', d', hc, B, S, S', rfl, rfl⟩
  exact ⟨rfl, J⟩
theorem i_vc_decide {k : Nat} {u : SX} {v : SY} (I : i_Rel k u v) (hk : k + 5 ≤ 2560) (v1 : Int32) : wpX_decide (fun r => wpY_decide (fun r' => r' = r ∧ i_Rel (k + 5) u v) v v1) u v1 := by
  obtain ⟨c, R, a, b, d, a', b', d', hc, B, S, S', rfl, rfl⟩ := I
  have J : i_Rel (k + 5) (nI c, a, b, d) (nI c, a', b', d') := ⟨c, R, a, b, d, a', b', d', hc, B, S, S', rfl, rfl⟩
  unfold wpX_decide wpY_decide
  dsimp only
  cases pc_pa v1 with
  | inl h => exact pc_ipX0 h (br_t rfl (pc_ipY0 h (br_t rfl ⟨rfl, J⟩)))
  | inr h =>
    obtain ⟨p, hp, rfl⟩ := h
    exact pc_ipX1 hp (br_f pc_10 (pc_f0X S B hc hp (pc_ipY1 hp (br_f pc_10 (pc_f0Y S' B hc hp ⟨rfl, J⟩)))))
theorem i_vc_action {k : Nat} {u : SX} {v : SY} (I : i_Rel k u v) (hk : k + 5 ≤ 2560) (v1 : Int32) : wpX_action (fun r => wpY_action (fun r' => r' = r ∧ i_Rel (k + 5) u v) v v1) u v1 := by
  obtain ⟨c, R, a, b, d, a', b', d', hc, B, S, S', rfl, rfl⟩ := I
  have J : i_Rel (k + 5) (nI c, a, b, d) (nI c, a', b', d') := ⟨c, R, a, b, d, a', b', d', hc, B, S, S', rfl, rfl⟩
  unfold wpX_action wpY_action
  dsimp only
  cases pc_pa v1 with
  | inl h => exact pc_ipX0 h (br_t rfl (pc_ipY0 h (br_t rfl ⟨rfl, J⟩)))
  | inr h =>
    obtain ⟨p, hp, rfl⟩ := h
    exact pc_ipX1 hp (br_f pc_10 (pc_f0X S B hc hp (pc_acX S B hc (pc_Dr R c p) (pc_ipY1 hp (br_f pc_10 (pc_f0Y S' B hc hp (pc_acY S' B hc (pc_Dr R c p) ⟨rfl, J⟩)))))))
theorem i_vc_holding {k : Nat} {u : SX} {v : SY} (I : i_Rel k u v) (hk : k + 5 ≤ 2560) (v1 : Int32) : wpX_holding (fun r => wpY_holding (fun r' => r' = r ∧ i_Rel (k + 5) u v) v v1) u v1 := by
  obtain ⟨c, R, a, b, d, a', b', d', hc, B, S, S', rfl, rfl⟩ := I
  have J : i_Rel (k + 5) (nI c, a, b, d) (nI c, a', b', d') := ⟨c, R, a, b, d, a', b', d', hc, B, S, S', rfl, rfl⟩
  unfold wpX_holding wpY_holding
  dsimp only
  cases pc_pa v1 with
  | inl h => exact pc_ipX0 h (br_t rfl (pc_ipY0 h (br_t rfl ⟨rfl, J⟩)))
  | inr h =>
    obtain ⟨p, hp, rfl⟩ := h
    refine pc_ipX1 hp (br_f pc_10 ⟨_, pc_hgX S B hc hp c 0 0 (by omega) ?_⟩)
    exact pc_ipY1 hp (br_f pc_10 ⟨_, pc_hgY S' B hc hp c 0 0 (by omega) ⟨rfl, J⟩⟩)
theorem i_vc_reach {k : Nat} {u : SX} {v : SY} (I : i_Rel k u v) (hk : k + 5 ≤ 2560) (v1 : Int32) : wpX_reach (fun r => wpY_reach (fun r' => r' = r ∧ i_Rel (k + 5) u v) v v1) u v1 := by
  obtain ⟨c, R, a, b, d, a', b', d', hc, B, S, S', rfl, rfl⟩ := I
  have J : i_Rel (k + 5) (nI c, a, b, d) (nI c, a', b', d') := ⟨c, R, a, b, d, a', b', d', hc, B, S, S', rfl, rfl⟩
  unfold wpX_reach wpY_reach
  dsimp only
  cases pc_ru v1 hc with
  | inl h => exact pc_irX0 h (br_t rfl (pc_irY0 h (br_t rfl ⟨rfl, J⟩)))
  | inr h =>
    obtain ⟨r, hr, rfl⟩ := h
    refine pc_irX1 hr hc (br_f pc_10 ⟨_, pc_reX S B hc hr 1024 0 0 (by omega) ?_⟩)
    exact pc_irY1 hr hc (br_f pc_10 ⟨_, pc_reY S' B hc hr 1024 0 0 (by omega) ⟨rfl, J⟩⟩)
theorem i_vc_decided {k : Nat} {u : SX} {v : SY} (I : i_Rel k u v) (hk : k + 5 ≤ 2560) (v1 : Int32) : wpX_decided (fun r => wpY_decided (fun r' => r' = r ∧ i_Rel (k + 5) u v) v v1) u v1 := by
  obtain ⟨c, R, a, b, d, a', b', d', hc, B, S, S', rfl, rfl⟩ := I
  have J : i_Rel (k + 5) (nI c, a, b, d) (nI c, a', b', d') := ⟨c, R, a, b, d, a', b', d', hc, B, S, S', rfl, rfl⟩
  unfold wpX_decided wpY_decided
  dsimp only
  cases pc_ru v1 hc with
  | inl h => exact pc_irX0 h (br_t rfl (pc_irY0 h (br_t rfl ⟨rfl, J⟩)))
  | inr h =>
    obtain ⟨r, hr, rfl⟩ := h
    refine pc_irX1 hr hc (br_f pc_10 (pc_cpdX S B hc (nI r) ?_))
    exact pc_irY1 hr hc (br_f pc_10 ⟨_, pc_cdY S' B hc (nI r) 1024 0 0 (by omega) ⟨rfl, J⟩⟩)
theorem i_vc_weight {k : Nat} {u : SX} {v : SY} (I : i_Rel k u v) (hk : k + 5 ≤ 2560) (v1 : Int32) : wpX_weight (fun r => wpY_weight (fun r' => r' = r ∧ i_Rel (k + 5) u v) v v1) u v1 := by
  obtain ⟨c, R, a, b, d, a', b', d', hc, B, S, S', rfl, rfl⟩ := I
  have J : i_Rel (k + 5) (nI c, a, b, d) (nI c, a', b', d') := ⟨c, R, a, b, d, a', b', d', hc, B, S, S', rfl, rfl⟩
  unfold wpX_weight wpY_weight
  dsimp only
  cases pc_ru v1 hc with
  | inl h => exact pc_irX0 h (br_t rfl (pc_irY0 h (br_t rfl ⟨rfl, J⟩)))
  | inr h =>
    obtain ⟨r, hr, rfl⟩ := h
    refine pc_irX1 hr hc (br_f pc_10 ⟨_, pc_weX S B hc hr 1024 0 0 (by omega) ?_⟩)
    exact pc_irY1 hr hc (br_f pc_10 ⟨_, pc_weY S' B hc hr 1024 0 0 (by omega) ⟨rfl, J⟩⟩)
theorem i_vc_undecided {k : Nat} {u : SX} {v : SY} (I : i_Rel k u v) (hk : k + 5 ≤ 2560) : wpX_undecided (fun r => wpY_undecided (fun r' => r' = r ∧ i_Rel (k + 5) u v) v) u := by
  obtain ⟨c, R, a, b, d, a', b', d', hc, B, S, S', rfl, rfl⟩ := I
  have J : i_Rel (k + 5) (nI c, a, b, d) (nI c, a', b', d') := ⟨c, R, a, b, d, a', b', d', hc, B, S, S', rfl, rfl⟩
  unfold wpX_undecided wpY_undecided
  dsimp only
  exact pc_cpdX S B hc (-4) ⟨_, pc_udY S' B hc 1024 0 0 (by omega) ⟨rfl, J⟩⟩
theorem i_vc_idle {k : Nat} {u : SX} {v : SY} (I : i_Rel k u v) (hk : k + 5 ≤ 2560) : wpX_idle (fun r => wpY_idle (fun r' => r' = r ∧ i_Rel (k + 5) u v) v) u := by
  obtain ⟨c, R, a, b, d, a', b', d', hc, B, S, S', rfl, rfl⟩ := I
  have J : i_Rel (k + 5) (nI c, a, b, d) (nI c, a', b', d') := ⟨c, R, a, b, d, a', b', d', hc, B, S, S', rfl, rfl⟩
  unfold wpX_idle wpY_idle
  dsimp only
  exact ⟨_, pc_idX S B hc c 0 0 (by omega) ⟨_, pc_idY S' B hc c 0 0 (by omega) ⟨rfl, J⟩⟩⟩
theorem i_vc_deepest {k : Nat} {u : SX} {v : SY} (I : i_Rel k u v) (hk : k + 5 ≤ 2560) : wpX_deepest (fun r => wpY_deepest (fun r' => r' = r ∧ i_Rel (k + 5) u v) v) u := by
  obtain ⟨c, R, a, b, d, a', b', d', hc, B, S, S', rfl, rfl⟩ := I
  have J : i_Rel (k + 5) (nI c, a, b, d) (nI c, a', b', d') := ⟨c, R, a, b, d, a', b', d', hc, B, S, S', rfl, rfl⟩
  unfold wpX_deepest wpY_deepest
  dsimp only
  exact ⟨_, pc_deX S B hc 1024 0 0 (by omega) ⟨_, pc_deY S' B hc 1024 0 0 (by omega) ⟨rfl, J⟩⟩⟩
theorem i_vc_acted {k : Nat} {u : SX} {v : SY} (I : i_Rel k u v) (hk : k + 5 ≤ 2560) (v1 : Int32) : wpX_acted (fun r => wpY_acted (fun r' => r' = r ∧ i_Rel (k + 5) u v) v v1) u v1 := by
  obtain ⟨c, R, a, b, d, a', b', d', hc, B, S, S', rfl, rfl⟩ := I
  have J : i_Rel (k + 5) (nI c, a, b, d) (nI c, a', b', d') := ⟨c, R, a, b, d, a', b', d', hc, B, S, S', rfl, rfl⟩
  unfold wpX_acted wpY_acted
  dsimp only
  by_cases z : v1 < 0
  · exact br_t z (br_t z ⟨rfl, J⟩)
  · obtain ⟨q, hq, rfl⟩ := nI_of z
    by_cases h : q < 4
    · exact br_f z (br_t (nI_lt (b := 4) h (by decide)) ⟨_, pc_atX S B hc (nI q) 1024 0 0 (by omega) (br_f z (br_t (nI_le (b := 3) (by omega) (by decide)) ⟨_, pc_atY S' B hc (nI q) 1024 0 0 (by omega) ⟨rfl, J⟩⟩))⟩)
    · exact br_f z (br_f (nI_nlt (b := 4) (by omega) hq) (br_f z (br_f (nI_ge (a := 3) (by omega) hq) ⟨rfl, J⟩)))
theorem i_vc_next {k : Nat} {u : SX} {v : SY} (I : i_Rel k u v) (hk : k + 5 ≤ 2560) (v1 : Int32) (v2 : Int32) : wpX_next (fun r => wpY_next (fun r' => r' = r ∧ i_Rel (k + 5) u v) v v1 v2) u v1 v2 := by
  obtain ⟨c, R, a, b, d, a', b', d', hc, B, S, S', rfl, rfl⟩ := I
  have J : i_Rel (k + 5) (nI c, a, b, d) (nI c, a', b', d') := ⟨c, R, a, b, d, a', b', d', hc, B, S, S', rfl, rfl⟩
  unfold wpX_next wpY_next
  dsimp only
  cases pc_ru v1 hc with
  | inl h =>
    refine pc_irX0 h (br_t rfl ?_)
    have N : ∀ x : Int32, wY_next_10 (fun r' => r' = -4 ∧ i_Rel (k + 5) (nI c, a, b, d) (nI c, a', b', d')) v1 (nI c) a' b' d' 1 x := fun x => br_c (fun _ => ⟨rfl, J⟩) (fun _ => pc_irY0 h (br_t rfl ⟨rfl, J⟩))
    exact br_c (fun _ => ⟨1, N _⟩) (fun _ => ⟨1, N _⟩)
  | inr h =>
    obtain ⟨r, hr, rfl⟩ := h
    refine pc_irX1 hr hc (br_f pc_10 ?_)
    by_cases z : v2 < 0
    · have z' : ¬ 0 ≤ v2 := Int32.not_le.mpr z
      exact br_f z' ⟨_, pc_neX S B hc hr (1024 - 0) 0 rfl (by decide) (br_f z' ⟨_, pc_neY S' B hc hr (1024 - 0) 0 rfl (by decide) ⟨rfl, J⟩⟩)⟩
    · obtain ⟨j, hj, rfl⟩ := nI_of z
      exact br_t (nI_pos' hj) ⟨_, pc_neX S B hc hr (1024 - j) j rfl hj (br_t (nI_pos' hj) ⟨_, pc_neY S' B hc hr (1024 - j) j rfl hj ⟨rfl, J⟩⟩)⟩
