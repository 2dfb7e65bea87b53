/-! the reference: place, satisfies, within, models, follows, prime -/
theorem ov_yis (post : Int32 → Prop) (N : Nat) (hN : N ≤ 5) (sz : Nat) (hz : sz ≤ 12) (base md fo : Nat → Int32) (x : Int32) (h0 : (x < 0 ∨ nI (3 ^ N) ≤ x) → post 0) (h1 : ∀ c, c < 3 ^ N → x = nI c → post 1) : wpY_isClause post (nI N, nI (3 ^ N), nI sz, base, md, fo) x := by
  have h3 := ov_p3 hN
  refine br_c (fun z => h0 (Or.inl z)) (fun z => br_c (fun y => h0 (Or.inr y)) (fun y => ?_))
  rcases pk_ix x (n := 3 ^ N) (by omega) with g | g | ⟨c, hc, e⟩
  · exact absurd g z
  · exact absurd g y
  · exact h1 c hc e
theorem ov_ypl2 (post : Int32 → Prop) (N : Nat) (hN : N ≤ 5) (sz : Nat) (hz : sz ≤ 12) (base md fo : Nat → Int32) (x : Int32) (h1 : ∀ i, i < sz → base i = x → post (nI i)) (h0 : (∀ i, i < sz → base i ≠ x) → post (-1)) : ∀ d i, i + d = sz → (∀ k, k < i → base k ≠ x) → wY_placeOf_2 post x (nI N) (nI (3 ^ N)) (nI sz) base md fo (d + 1) (nI i) := by
  intro d
  induction d with
  | zero =>
    intro i hi hk
    exact br_t (nI_le (by omega) (by omega)) (h0 (fun k hk' => hk k (by omega)))
  | succ d ih =>
    intro i hi hk
    have ec : (nI i).toNatClampNeg = i := nI_clamp (by omega)
    refine br_f (nI_ge (by omega) (by omega)) ⟨pk_in i 12 (by omega), br_c (fun z => h1 i (by omega) (by rw [ec] at z; exact z)) (fun z => nm_r (nI_1 i) (ih (i + 1) (by omega) (fun k hk' => ?_)))⟩
    rw [ec] at z
    rcases Nat.eq_or_lt_of_le (Nat.le_of_lt_succ hk') with e | e
    · rw [e]; exact z
    · exact hk k e
theorem ov_ypl (post : Int32 → Prop) (N : Nat) (hN : N ≤ 5) (sz : Nat) (hz : sz ≤ 12) (base md fo : Nat → Int32) (x : Int32) (h1 : ∀ i, i < sz → base i = x → post (nI i)) (h0 : (∀ i, i < sz → base i ≠ x) → post (-1)) : wpY_placeOf post (nI N, nI (3 ^ N), nI sz, base, md, fo) x :=
  ⟨sz + 1, ov_ypl2 post N hN sz hz base md fo x h1 h0 sz 0 (by omega) (fun k hk => absurd hk (by omega))⟩
theorem ov_y39 (post : Int32 → Prop) (J5 : Int32 → Int32 → Prop) (a c v z : Nat) (ha : a < 2 ^ 31) (hv : v < 32) (hz : z < 3) (fn fc fs : Int32) (base md fo : Nat → Int32) (h1 : z = 2 → a / 2 ^ v % 2 = 0 → post 1) (h2 : ¬ (z = 2 ∧ a / 2 ^ v % 2 = 0) → J5 (nI c) (nI (v + 1))) : wY_satisfies_39 post J5 (nI a) (nI c) (nI v) (nI z) fn fc fs base md fo := by
  have hd : a / 2 ^ v ≤ a := Nat.div_le_self _ _
  have eb : ((nI a >>> (nI v &&& 31)) &&& 1) = nI (a / 2 ^ v % 2) := by rw [pk_shrN ha _ v (s_l v hv)]; exact pk_andN (by omega) 1 (by decide)
  exact pk_eq z 2 (fun g => pk_eq (a / 2 ^ v % 2) 0 (fun g2 => h1 g g2) (fun g2 => nm_r (nI_1 v) (h2 (fun q => g2 q.2))) eb rfl) (fun g => nm_r (nI_1 v) (h2 (fun q => g q.1)))
theorem ov_ysat5 (post : Int32 → Prop) (N : Nat) (hN : N ≤ 5) (sz : Nat) (hz : sz ≤ 12) (base md fo : Nat → Int32) (a c : Nat) (ha : a < 2 ^ 31) (hc : c < 2 ^ 31) : ∀ d v, v + d = N → post (ov_bI (ov_an (ov_sp a c) d v)) → wY_satisfies_5 post (nI a) (nI N) (nI (3 ^ N)) (nI sz) base md fo (d + 1) (nI (c / 3 ^ v)) (nI v) := by
  intro d
  induction d with
  | zero =>
    intro v hv hp
    exact br_t (nI_le (by omega) (by omega)) hp
  | succ d ih =>
    intro v hv hp
    have hc' : c / 3 ^ v < 2 ^ 31 := Nat.lt_of_le_of_lt (Nat.div_le_self _ _) hc
    have hd : a / 2 ^ v ≤ a := Nat.div_le_self _ _
    have eb : ((nI a >>> (nI v &&& 31)) &&& 1) = nI (a / 2 ^ v % 2) := by rw [pk_shrN ha _ v (s_l v (by omega))]; exact pk_andN (by omega) 1 (by decide)
    have yes : (c / 3 ^ v % 3 = if a / 2 ^ v % 2 = 1 then 1 else 2) → post 1 := by
      intro g
      have : ov_an (ov_sp a c) (d + 1) v = true := by
        show (ov_sp a c v || _) = true
        rw [show ov_sp a c v = true from decide_eq_true g, Bool.true_or]
      rw [this] at hp
      exact hp
    have no : ¬ (c / 3 ^ v % 3 = if a / 2 ^ v % 2 = 1 then 1 else 2) → wY_satisfies_5 post (nI a) (nI N) (nI (3 ^ N)) (nI sz) base md fo (d + 1) (nI (c / 3 ^ v / 3)) (nI (v + 1)) := by
      intro g
      rw [ov_dv3]
      refine ih (v + 1) (by omega) ?_
      have : ov_an (ov_sp a c) (d + 1) v = ov_an (ov_sp a c) d (v + 1) := by
        show (ov_sp a c v || _) = _
        rw [show ov_sp a c v = false from decide_eq_false g, Bool.false_or]
      rw [this] at hp
      exact hp
    have key : ¬ (c / 3 ^ v % 3 = 1 ∧ a / 2 ^ v % 2 = 1) → wY_satisfies_39 post (wY_satisfies_5 post (nI a) (nI N) (nI (3 ^ N)) (nI sz) base md fo (d + 1)) (nI a) (nI (c / 3 ^ v / 3)) (nI v) (nI (c / 3 ^ v % 3)) (nI N) (nI (3 ^ N)) (nI sz) base md fo := by
      intro g
      refine ov_y39 post _ a _ v _ ha (by omega) (by omega) _ _ _ base md fo (fun e1 e2 => yes ?_) (fun e => no ?_)
      · rw [if_neg (by omega)]; exact e1
      · split <;> omega
    refine br_f (nI_ge (by omega) (by omega)) ⟨by decide, nm_r (pk_rem (d := 3) hc' (by decide) (by decide)) ⟨by decide, nm_r (pk_div (d := 3) hc' (by decide) (by decide)) (pk_eq (c / 3 ^ v % 3) 1 (fun g => pk_eq (a / 2 ^ v % 2) 1 (fun g2 => yes ?_) (fun g2 => key (fun q => g2 q.2)) eb rfl) (fun g => key (fun q => g q.1)))⟩⟩
    rw [if_pos g2]
    exact g
theorem ov_ysat (post : Int32 → Prop) (N : Nat) (hN : N ≤ 5) (sz : Nat) (hz : sz ≤ 12) (base md fo : Nat → Int32) (a c : Nat) (ha : a < 2 ^ 31) (hc : c < 2 ^ 31) (x : Int32) (hx : x = nI c) (hp : post (ov_bI (ov_zs N a c))) : wpY_satisfies post (nI N, nI (3 ^ N), nI sz, base, md, fo) (nI a) x := by
  subst hx
  have := ov_ysat5 post N hN sz hz base md fo a c ha hc N 0 (by omega) hp
  rw [Nat.pow_zero, Nat.div_one] at this
  exact ⟨N + 1, this⟩
theorem ov_y35 (post : Int32 → Prop) (J8 : Int32 → Int32 → Int32 → Prop) (d c v : Nat) (hd : d < 2 ^ 31) (hc : c < 2 ^ 31) (fn fc fs : Int32) (base md fo : Nat → Int32) (h : J8 (nI (d / 3)) (nI (c / 3)) (nI (v + 1))) : wY_within_35 post J8 (nI d) (nI c) (nI v) fn fc fs base md fo :=
  ⟨by decide, nm_r (pk_div (d := 3) hd (by decide) (by decide)) ⟨by decide, nm_r (pk_div (d := 3) hc (by decide) (by decide)) (nm_r (nI_1 v) h)⟩⟩
theorem ov_yw8 (post : Int32 → Prop) (N : Nat) (hN : N ≤ 5) (sz : Nat) (hz : sz ≤ 12) (base md fo : Nat → Int32) (i o : Nat) (hi : i < 2 ^ 31) (ho : o < 2 ^ 31) : ∀ d v, v + d = N → post (ov_bI (ov_al (ov_wp i o) d v)) → wY_within_8 post (nI N) (nI (3 ^ N)) (nI sz) base md fo (d + 1) (nI (i / 3 ^ v)) (nI (o / 3 ^ v)) (nI v) := by
  intro d
  induction d with
  | zero =>
    intro v hv hp
    exact br_t (nI_le (by omega) (by omega)) hp
  | succ d ih =>
    intro v hv hp
    have hi' : i / 3 ^ v < 2 ^ 31 := Nat.lt_of_le_of_lt (Nat.div_le_self _ _) hi
    have ho' : o / 3 ^ v < 2 ^ 31 := Nat.lt_of_le_of_lt (Nat.div_le_self _ _) ho
    have key : ov_wp i o v = true → wY_within_35 post (wY_within_8 post (nI N) (nI (3 ^ N)) (nI sz) base md fo (d + 1)) (nI (i / 3 ^ v)) (nI (o / 3 ^ v)) (nI v) (nI N) (nI (3 ^ N)) (nI sz) base md fo := by
      intro g
      refine ov_y35 post _ _ _ v hi' ho' _ _ _ base md fo ?_
      rw [ov_dv3, ov_dv3]
      refine ih (v + 1) (by omega) ?_
      have : ov_al (ov_wp i o) (d + 1) v = ov_al (ov_wp i o) d (v + 1) := by
        show (ov_wp i o v && _) = _
        rw [g, Bool.true_and]
      rw [this] at hp
      exact hp
    refine br_f (nI_ge (by omega) (by omega)) ⟨by decide, pk_eq (i / 3 ^ v % 3) 0 (fun g => key ?_) (fun g => ⟨by decide, by decide, pk_eq (i / 3 ^ v % 3) (o / 3 ^ v % 3) (fun g2 => key ?_) (fun g2 => ?_) (pk_rem (d := 3) hi' (by decide) (by decide)) (pk_rem (d := 3) ho' (by decide) (by decide))⟩) (pk_rem (d := 3) hi' (by decide) (by decide))⟩
    · unfold ov_wp; rw [decide_eq_true g, Bool.true_or]
    · unfold ov_wp; rw [decide_eq_true g2, Bool.or_true]
    · have : ov_al (ov_wp i o) (d + 1) v = false := by
        show (ov_wp i o v && _) = false
        rw [show ov_wp i o v = false by unfold ov_wp; rw [decide_eq_false g, decide_eq_false g2]; rfl, Bool.false_and]
      rw [this] at hp
      exact hp
theorem ov_yw (post : Int32 → Prop) (N : Nat) (hN : N ≤ 5) (sz : Nat) (hz : sz ≤ 12) (base md fo : Nat → Int32) (i o : Nat) (hi : i < 2 ^ 31) (ho : o < 2 ^ 31) (hp : post (ov_bI (ov_zw N i o))) : wpY_within post (nI N, nI (3 ^ N), nI sz, base, md, fo) (nI i) (nI o) := by
  have := ov_yw8 post N hN sz hz base md fo i o hi ho N 0 (by omega) hp
  rw [Nat.pow_zero, Nat.div_one, Nat.div_one] at this
  exact ⟨N + 1, this⟩
def ov_yq (N : Nat) (b : Nat → Nat) (lo : Int32) (a i : Nat) : Bool := decide (nI i = lo) || ov_zs N a (b i)
def ov_my (N : Nat) (b : Nat → Nat) (lo : Int32) (n a : Nat) : Bool := ov_al (ov_yq N b lo a) n 0
def ov_Bas (N sz : Nat) (base : Nat → Int32) (b : Nat → Nat) : Prop := ∀ i, i < sz → b i < 3 ^ N ∧ base i = nI (b i)
theorem ov_my_sn (N : Nat) (b : Nat → Nat) (lo : Int32) (n a : Nat) : ov_my N b lo (n + 1) a = (ov_my N b lo n a && ov_yq N b lo a n) := ov_al_sn _ _
theorem ov_ym21 (post : SY → Prop) (J2 : Int32 → (Nat → Int32) → (Nat → Int32) → (Nat → Int32) → Prop) (lo : Int32) (N : Nat) (hN : N ≤ 5) (sz : Nat) (hz : sz ≤ 12) (base fo : Nat → Int32) (b : Nat → Nat) (hB : ov_Bas N sz base b) (a : Nat) (ha : a < 32) : ∀ d i md, i + d = sz → md a = ov_bI (ov_my N b lo i a) → (∀ md', (∀ k, k ≠ a → md' k = md k) → md' a = ov_bI (ov_my N b lo sz a) → J2 (nI (a + 1)) base md' fo) → wY_findModels_21 post J2 lo (nI a) (nI N) (nI (3 ^ N)) (nI sz) (d + 1) (nI i) base md fo := by
  have h3 := ov_p3 hN
  intro d
  induction d with
  | zero =>
    intro i md hi hm hJ
    refine br_t (nI_le (by omega) (by omega)) (nm_r (nI_1 a) (hJ md (fun _ _ => rfl) ?_))
    rw [show sz = i by omega]
    exact hm
  | succ d ih =>
    intro i md hi hm hJ
    have ec : (nI i).toNatClampNeg = i := nI_clamp (by omega)
    have ea : (nI a).toNatClampNeg = a := nI_clamp (by omega)
    have hb := hB i (by omega)
    refine br_f (nI_ge (by omega) (by omega)) (br_c (fun z => nm_r (nI_1 i) (ih (i + 1) md (by omega) ?_ hJ)) (fun z => ⟨pk_in i 12 (by omega), ov_ysat _ N hN sz hz base md fo a (b i) (by omega) (by omega) _ (by rw [ec]; exact hb.2) (ov_br _ (fun g => ⟨pk_in a 32 ha, nm_r (e' := upd md a 0) (by rw [ea, ov_f]) (nm_r (nI_1 i) (ih (i + 1) _ (by omega) ?_ (fun md' k1 k2 => hJ md' (fun k hk => (k1 k hk).trans (pk_un hk)) k2)))⟩) (fun g => nm_r (nI_1 i) (ih (i + 1) md (by omega) ?_ hJ)))⟩))
    · rw [ov_my_sn, show ov_yq N b lo a i = true by unfold ov_yq; rw [decide_eq_true z, Bool.true_or], Bool.and_true]
      exact hm
    · rw [ov_my_sn, show ov_yq N b lo a i = false by unfold ov_yq; rw [decide_eq_false z, g]; rfl, Bool.and_false, pk_us]
      rfl
    · rw [ov_my_sn, show ov_yq N b lo a i = true by unfold ov_yq; rw [g, Bool.or_true], Bool.and_true]
      exact hm
def ov_Md (N : Nat) (md : Nat → Int32) (M : Nat → Bool) : Prop := ∀ a, a < 2 ^ N → md a = ov_bI (M a)
theorem ov_ym2 (post : SY → Prop) (lo : Int32) (N : Nat) (hN : N ≤ 5) (sz : Nat) (hz : sz ≤ 12) (base fo : Nat → Int32) (b : Nat → Nat) (hB : ov_Bas N sz base b) (hp : ∀ md, ov_Md N md (ov_my N b lo sz) → post (nI N, nI (3 ^ N), nI sz, base, md, fo)) : ∀ d a md, a + d = 2 ^ N → (∀ k, k < a → md k = ov_bI (ov_my N b lo sz k)) → wY_findModels_2 post lo (nI N) (nI (3 ^ N)) (nI sz) (d + 1) (nI a) base md fo := by
  have h2 := ov_p2 hN
  intro d
  induction d with
  | zero =>
    intro a md ha hm
    exact br_t (by rw [ov_sh1 N (by omega)]; exact nI_le (by omega) (by omega)) (hp md (fun k hk => hm k (by omega)))
  | succ d ih =>
    intro a md ha hm
    have ea : (nI a).toNatClampNeg = a := nI_clamp (by omega)
    refine br_f (by rw [ov_sh1 N (by omega)]; exact nI_ge (by omega) (by omega)) ⟨pk_in a 32 (by omega), nm_r (e' := upd md a 1) (by rw [ea, ov_t]) ⟨sz + 1, ov_ym21 post _ lo N hN sz hz base fo b hB a (by omega) sz 0 _ (by omega) (by rw [pk_us]; rfl) (fun md' k1 k2 => ih (a + 1) md' (by omega) (fun k hk => ?_))⟩⟩
    rcases Nat.eq_or_lt_of_le (Nat.le_of_lt_succ hk) with e | e
    · rw [e]; exact k2
    · rw [k1 k (by omega), pk_un (by omega)]; exact hm k e
theorem ov_ymod (post : SY → Prop) (lo : Int32) (N : Nat) (hN : N ≤ 5) (sz : Nat) (hz : sz ≤ 12) (base md fo : Nat → Int32) (b : Nat → Nat) (hB : ov_Bas N sz base b) (hp : ∀ md, ov_Md N md (ov_my N b lo sz) → post (nI N, nI (3 ^ N), nI sz, base, md, fo)) : wpY_findModels post (nI N, nI (3 ^ N), nI sz, base, md, fo) lo :=
  ⟨2 ^ N + 1, ov_ym2 post lo N hN sz hz base fo b hB hp (2 ^ N) 0 md (by omega) (fun k hk => absurd hk (by omega))⟩
theorem ov_yfn2 (post : Int32 → Prop) (N : Nat) (hN : N ≤ 5) (sz : Nat) (hz : sz ≤ 12) (base md fo : Nat → Int32) (M : Nat → Bool) (hM : ov_Md N md M) (c : Nat) (hc : c < 2 ^ 31) : ∀ d a, a + d = 2 ^ N → post (ov_bI (ov_al (fun j => !M j || ov_zs N j c) d a)) → wY_followsNow_2 post (nI c) (nI N) (nI (3 ^ N)) (nI sz) base md fo (d + 1) (nI a) := by
  have h2 := ov_p2 hN
  intro d
  induction d with
  | zero =>
    intro a ha hp
    exact br_t (by rw [ov_sh1 N (by omega)]; exact nI_le (by omega) (by omega)) hp
  | succ d ih =>
    intro a ha hp
    have ea : (nI a).toNatClampNeg = a := nI_clamp (by omega)
    have hm := hM a (by omega)
    have key : (!M a || ov_zs N a c) = true → wY_followsNow_2 post (nI c) (nI N) (nI (3 ^ N)) (nI sz) base md fo (d + 1) (nI (a + 1)) := by
      intro g
      refine ih (a + 1) (by omega) ?_
      have : ov_al (fun j => !M j || ov_zs N j c) (d + 1) a = ov_al (fun j => !M j || ov_zs N j c) d (a + 1) := by
        show ((!M a || ov_zs N a c) && _) = _
        rw [g, Bool.true_and]
      rw [this] at hp
      exact hp
    refine br_f (by rw [ov_sh1 N (by omega)]; exact nI_ge (by omega) (by omega)) ⟨pk_in a 32 (by omega), ?_⟩
    rw [ea, hm]
    refine ov_br _ (fun g => nm_r (nI_1 a) (key (by rw [g]; rfl))) (fun g => ov_ysat _ N hN sz hz base md fo a c (by omega) hc _ rfl (ov_br _ (fun e => ?_) (fun e => nm_r (nI_1 a) (key (by rw [e, Bool.or_true])))))
    have : ov_al (fun j => !M j || ov_zs N j c) (d + 1) a = false := by
      show ((!M a || ov_zs N a c) && _) = false
      rw [g, e]
      rfl
    rw [this] at hp
    exact hp
theorem ov_yfn (post : Int32 → Prop) (N : Nat) (hN : N ≤ 5) (sz : Nat) (hz : sz ≤ 12) (base md fo : Nat → Int32) (M : Nat → Bool) (hM : ov_Md N md M) (c : Nat) (hc : c < 2 ^ 31) (x : Int32) (hx : x = nI c) (hp : post (ov_bI (ov_fl N M c))) : wpY_followsNow post (nI N, nI (3 ^ N), nI sz, base, md, fo) x := by
  subst hx
  exact ⟨2 ^ N + 1, ov_yfn2 post N hN sz hz base md fo M hM c hc (2 ^ N) 0 (by omega) hp⟩
def ov_Fo (N : Nat) (fo : Nat → Int32) (M : Nat → Bool) : Prop := ∀ c, c < 3 ^ N → fo c = ov_bI (ov_fl N M c)
theorem ov_yff7 (post : SY → Prop) (N : Nat) (hN : N ≤ 5) (sz : Nat) (hz : sz ≤ 12) (base md : Nat → Int32) (M : Nat → Bool) (hM : ov_Md N md M) (hp : ∀ fo, ov_Fo N fo M → post (nI N, nI (3 ^ N), nI sz, base, md, fo)) : ∀ d c fo, c + d = 3 ^ N → (∀ k, k < c → fo k = ov_bI (ov_fl N M k)) → wY_findFollowing_7 post (nI N) (nI (3 ^ N)) (nI sz) (d + 1) (nI c) base md fo := by
  have h3 := ov_p3 hN
  intro d
  induction d with
  | zero =>
    intro c fo hc hm
    exact br_t (nI_le (by omega) (by omega)) (hp fo (fun k hk => hm k (by omega)))
  | succ d ih =>
    intro c fo hc hm
    have ec : (nI c).toNatClampNeg = c := nI_clamp (by omega)
    refine br_f (nI_ge (by omega) (by omega)) (ov_yfn _ N hN sz hz base md fo M hM c (by omega) _ rfl ⟨pk_in c 243 (by omega), nm_r (e' := upd fo c (ov_bI (ov_fl N M c))) (by rw [ec, ov_vb]) (nm_r (nI_1 c) (ih (c + 1) _ (by omega) (fun k hk => ?_)))⟩)
    rcases Nat.eq_or_lt_of_le (Nat.le_of_lt_succ hk) with e | e
    · rw [e, pk_us]
    · rw [pk_un (by omega)]; exact hm k e
theorem ov_yff (post : SY → Prop) (N : Nat) (hN : N ≤ 5) (sz : Nat) (hz : sz ≤ 12) (base md fo : Nat → Int32) (b : Nat → Nat) (hB : ov_Bas N sz base b) (hp : ∀ md fo, ov_Md N md (ov_my N b (-1) sz) → ov_Fo N fo (ov_my N b (-1) sz) → post (nI N, nI (3 ^ N), nI sz, base, md, fo)) : wpY_findFollowing post (nI N, nI (3 ^ N), nI sz, base, md, fo) := by
  unfold wpY_findFollowing
  dsimp only
  refine ov_ymod _ (-1) N hN sz hz base md fo b hB (fun md' hM => ?_)
  exact ⟨3 ^ N + 1, ov_yff7 post N hN sz hz base md' _ hM (fun fo' hf => hp md' fo' hM hf) (3 ^ N) 0 fo (by omega) (fun k hk => absurd hk (by omega))⟩
theorem ov_yp13 (post : Int32 → Prop) (N : Nat) (hN : N ≤ 5) (sz : Nat) (hz : sz ≤ 12) (base md fo : Nat → Int32) (M : Nat → Bool) (hf : ov_Fo N fo M) (c : Nat) (hc : c < 3 ^ N) : ∀ d e, e + d = 3 ^ N → post (ov_bI (ov_al (fun d => decide (d = c) || (!ov_fl N M d || !ov_zw N d c)) d e)) → wY_isPrime_13 post (nI c) (nI N) (nI (3 ^ N)) (nI sz) base md fo (d + 1) (nI e) := by
  have h3 := ov_p3 hN
  intro d
  induction d with
  | zero =>
    intro e he hp
    exact br_t (nI_le (by omega) (by omega)) hp
  | succ d ih =>
    intro e he hp
    have ee : (nI e).toNatClampNeg = e := nI_clamp (by omega)
    have hm := hf e (by omega)
    have key : (decide (e = c) || (!ov_fl N M e || !ov_zw N e c)) = true → wY_isPrime_13 post (nI c) (nI N) (nI (3 ^ N)) (nI sz) base md fo (d + 1) (nI (e + 1)) := by
      intro g
      refine ih (e + 1) (by omega) ?_
      have : ov_al (fun d => decide (d = c) || (!ov_fl N M d || !ov_zw N d c)) (d + 1) e = ov_al (fun d => decide (d = c) || (!ov_fl N M d || !ov_zw N d c)) d (e + 1) := by
        show ((decide (e = c) || (!ov_fl N M e || !ov_zw N e c)) && _) = _
        rw [g, Bool.true_and]
      rw [this] at hp
      exact hp
    refine br_f (nI_ge (by omega) (by omega)) (pk_eq e c (fun g => nm_r (nI_1 e) (key (by rw [decide_eq_true g, Bool.true_or]))) (fun g => ⟨pk_in e 243 (by omega), ?_⟩))
    rw [ee, hm]
    refine ov_br _ (fun g2 => nm_r (nI_1 e) (key (by rw [g2]; simp))) (fun g2 => ov_yw _ N hN sz hz base md fo e c (by omega) (by omega) (ov_br _ (fun g3 => nm_r (nI_1 e) (key (by rw [g3]; simp))) (fun g3 => ?_)))
    have : ov_al (fun d => decide (d = c) || (!ov_fl N M d || !ov_zw N d c)) (d + 1) e = false := by
      show ((decide (e = c) || (!ov_fl N M e || !ov_zw N e c)) && _) = false
      rw [decide_eq_false g, g2, g3]
      rfl
    rw [this] at hp
    exact hp
theorem ov_yprime (post : Int32 → Prop) (N : Nat) (hN : N ≤ 5) (sz : Nat) (hz : sz ≤ 12) (base md fo : Nat → Int32) (M : Nat → Bool) (hf : ov_Fo N fo M) (c : Nat) (hc : c < 3 ^ N) (hp : post (ov_bI (ov_pr N M c))) : wpY_isPrime post (nI N, nI (3 ^ N), nI sz, base, md, fo) (nI c) := by
  have h3 := ov_p3 hN
  have ec : (nI c).toNatClampNeg = c := nI_clamp (by omega)
  have hm := hf c hc
  unfold wpY_isPrime
  dsimp only
  refine ⟨pk_in c 243 (by omega), ?_⟩
  rw [ec, hm]
  unfold ov_pr at hp
  refine ov_br _ (fun g => ?_) (fun g => ⟨3 ^ N + 1, ov_yp13 post N hN sz hz base md fo M hf c hc (3 ^ N) 0 (by omega) ?_⟩)
  · rw [g] at hp
    exact hp
  · rw [g] at hp
    exact hp
