/-! the component: power, satisfies, within -/
theorem ov_xpow (post : Int32 → Prop) (b N : Nat) (hN : N ≤ 5) : ∀ d v r, v + d = N → post (nI (r * b ^ d)) → wX_power_4 post (nI b) (nI N) (d + 1) (nI r) (nI v) := by
  intro d
  induction d with
  | zero =>
    intro v r hv hp
    rw [Nat.pow_zero, Nat.mul_one] at hp
    exact br_t (nI_le (by omega) (by omega)) hp
  | succ d ih =>
    intro v r hv hp
    refine br_f (nI_ge (by omega) (by omega)) (nm_r (pk_mul r b) (nm_r (nI_1 v) (ih (v + 1) (r * b) (by omega) ?_)))
    rw [Nat.mul_assoc, ← Nat.pow_succ']
    exact hp
theorem ov_x30 (post : Int32 → Prop) (J8 : Int32 → Int32 → Int32 → Prop) (c a v z : Nat) (w : Int32) (hw : w = nI z) (hc : c < 2 ^ 31) (ha : a < 2 ^ 31) (hz : z < 3) (fv fc fa fb : Int32) (fal : Nat → Int64) (inb : Nat → Int32) (h1 : c % 3 = z → post 1) (h2 : c % 3 ≠ z → J8 (nI (c / 3)) (nI (a / 2)) (nI (v + 1))) : wX_satisfies_30 post J8 (nI c) (nI a) (nI v) w fv fc fa fb fal inb := by
  subst hw
  exact ⟨by decide, pk_eq (c % 3) z h1 (fun g => ⟨by decide, nm_r (pk_div (d := 3) hc (by decide) (by decide)) (nm_r (pk_shrN ha _ 1 (by decide)) (nm_r (nI_1 v) (h2 g)))⟩) (pk_rem (d := 3) hc (by decide) (by decide)) rfl⟩
theorem ov_dv3 (c v : Nat) : c / 3 ^ v / 3 = c / 3 ^ (v + 1) := by rw [Nat.div_div_eq_div_mul, Nat.pow_succ]
theorem ov_dv2 (c v : Nat) : c / 2 ^ v / 2 = c / 2 ^ (v + 1) := by rw [Nat.div_div_eq_div_mul, Nat.pow_succ]
theorem ov_xsat8 (post : Int32 → Prop) (N : Nat) (hN : N ≤ 5) (fc fa fb : Int32) (fal : Nat → Int64) (inb : Nat → Int32) (a c : Nat) (ha : a < 2 ^ 31) (hc : c < 2 ^ 31) : ∀ d v, v + d = N → post (ov_bI (ov_an (ov_sp a c) d v)) → wX_satisfies_8 post (nI N) fc fa fb fal inb (d + 1) (nI (c / 3 ^ v)) (nI (a / 2 ^ v)) (nI v) := by
  intro d
  induction d with
  | zero =>
    intro v hv hp
    exact br_t (nI_le (by omega) (by omega)) hp
  | succ d ih =>
    intro v hv hp
    have hc' : c / 3 ^ v < 2 ^ 31 := Nat.lt_of_le_of_lt (Nat.div_le_self _ _) hc
    have ha' : a / 2 ^ v < 2 ^ 31 := Nat.lt_of_le_of_lt (Nat.div_le_self _ _) ha
    have key : ∀ z : Nat, z < 3 → ∀ w : Int32, w = nI z → (z = if a / 2 ^ v % 2 = 1 then 1 else 2) → wX_satisfies_30 post (wX_satisfies_8 post (nI N) fc fa fb fal inb (d + 1)) (nI (c / 3 ^ v)) (nI (a / 2 ^ v)) (nI v) w (nI N) fc fa fb fal inb := by
      intro z hz w hw e
      refine ov_x30 post _ (c / 3 ^ v) (a / 2 ^ v) v z w hw hc' ha' hz (nI N) fc fa fb fal inb (fun g => ?_) (fun g => ?_)
      · have : ov_an (ov_sp a c) (d + 1) v = true := by
          show (ov_sp a c v || _) = true
          rw [show ov_sp a c v = true from decide_eq_true (by rw [g, e]), Bool.true_or]
        rw [this] at hp
        exact hp
      · rw [ov_dv3, ov_dv2]
        refine ih (v + 1) (by omega) ?_
        have : ov_an (ov_sp a c) (d + 1) v = ov_an (ov_sp a c) d (v + 1) := by
          show (ov_sp a c v || _) = _
          rw [show ov_sp a c v = false from decide_eq_false (by rw [← e]; exact g), Bool.false_or]
        rw [this] at hp
        exact hp
    refine br_f (nI_ge (by omega) (by omega)) (pk_eq (a / 2 ^ v % 2) 1 (fun g => key 1 (by decide) 1 rfl (by rw [if_pos g])) (fun g => key 2 (by decide) 2 rfl (by rw [if_neg g])) (pk_andN (by omega) 1 (by decide)) rfl (by omega) (by decide))
theorem ov_xsat (post : Int32 → Prop) (N : Nat) (hN : N ≤ 5) (fc fa fb : Int32) (fal : Nat → Int64) (inb : Nat → Int32) (a c : Nat) (ha : a < 2 ^ 31) (hc : c < 2 ^ 31) (hp : post (ov_bI (ov_zs N a c))) : wpX_satisfies post (nI N, fc, fa, fb, fal, inb) (nI a) (nI c) := by
  have := ov_xsat8 post N hN fc fa fb fal inb a c ha hc N 0 (by omega) hp
  rw [Nat.pow_zero, Nat.div_one, Nat.div_one] at this
  exact ⟨N + 1, this⟩
theorem ov_x38 (post : Int32 → Prop) (J8 : Int32 → Int32 → Int32 → Prop) (d c v : Nat) (hd : d < 2 ^ 31) (hc : c < 2 ^ 31) (fv fc fa fb : Int32) (fal : Nat → Int64) (inb : Nat → Int32) (h : J8 (nI (d / 3)) (nI (c / 3)) (nI (v + 1))) : wX_isWithin_38 post J8 (nI d) (nI c) (nI v) fv fc fa fb fal inb :=
  ⟨by decide, nm_r (pk_div (d := 3) hd (by decide) (by decide)) ⟨by decide, nm_r (pk_div (d := 3) hc (by decide) (by decide)) (nm_r (nI_1 v) h)⟩⟩
theorem ov_xw8 (post : Int32 → Prop) (N : Nat) (hN : N ≤ 5) (fc fa fb : Int32) (fal : Nat → Int64) (inb : Nat → Int32) (i o : Nat) (hi : i < 2 ^ 31) (ho : o < 2 ^ 31) : ∀ d v, v + d = N → post (ov_bI (ov_al (ov_wp i o) d v)) → wX_isWithin_8 post (nI N) fc fa fb fal inb (d + 1) (nI (i / 3 ^ v)) (nI (o / 3 ^ v)) (nI v) := by
  intro d
  induction d with
  | zero =>
    intro v hv hp
    exact br_t (nI_le (by omega) (by omega)) hp
  | succ d ih =>
    intro v hv hp
    have hi' : i / 3 ^ v < 2 ^ 31 := Nat.lt_of_le_of_lt (Nat.div_le_self _ _) hi
    have ho' : o / 3 ^ v < 2 ^ 31 := Nat.lt_of_le_of_lt (Nat.div_le_self _ _) ho
    have key : ov_wp i o v = true → wX_isWithin_38 post (wX_isWithin_8 post (nI N) fc fa fb fal inb (d + 1)) (nI (i / 3 ^ v)) (nI (o / 3 ^ v)) (nI v) (nI N) fc fa fb fal inb := by
      intro g
      refine ov_x38 post _ _ _ v hi' ho' (nI N) fc fa fb fal inb ?_
      rw [ov_dv3, ov_dv3]
      refine ih (v + 1) (by omega) ?_
      have : ov_al (ov_wp i o) (d + 1) v = ov_al (ov_wp i o) d (v + 1) := by
        show (ov_wp i o v && _) = _
        rw [g, Bool.true_and]
      rw [this] at hp
      exact hp
    refine br_f (nI_ge (by omega) (by omega)) ⟨by decide, nm_r (pk_rem (d := 3) hi' (by decide) (by decide)) (pk_eq (i / 3 ^ v % 3) 0 (fun g => key ?_) (fun g => ⟨by decide, pk_eq (i / 3 ^ v % 3) (o / 3 ^ v % 3) (fun g2 => key ?_) (fun g2 => ?_) rfl (pk_rem (d := 3) ho' (by decide) (by decide))⟩))⟩
    · unfold ov_wp; rw [decide_eq_true g, Bool.true_or]
    · unfold ov_wp; rw [decide_eq_true g2, Bool.or_true]
    · have : ov_al (ov_wp i o) (d + 1) v = false := by
        show (ov_wp i o v && _) = false
        rw [show ov_wp i o v = false by unfold ov_wp; rw [decide_eq_false g, decide_eq_false g2]; rfl, Bool.false_and]
      rw [this] at hp
      exact hp
theorem ov_xw (post : Int32 → Prop) (N : Nat) (hN : N ≤ 5) (fc fa fb : Int32) (fal : Nat → Int64) (inb : Nat → Int32) (i o : Nat) (hi : i < 2 ^ 31) (ho : o < 2 ^ 31) (hp : post (ov_bI (ov_zw N i o))) : wpX_isWithin post (nI N, fc, fa, fb, fal, inb) (nI i) (nI o) := by
  have := ov_xw8 post N hN fc fa fb fal inb i o hi ho N 0 (by omega) hp
  rw [Nat.pow_zero, Nat.div_one, Nat.div_one] at this
  exact ⟨N + 1, this⟩
