/-! the reference: its calls -/
theorem ov_bad {N : Nat} (hN : N ≤ 5) {x : Int32} (g : x < 0 ∨ nI (3 ^ N) ≤ x) {c : Nat} (hc : c < 3 ^ N) (e : x = nI c) : False := by
  have h3 := ov_p3 hN
  subst e
  rcases g with g | g
  · exact nI_pos (by omega) g
  · exact nI_ge hc (by omega) g
theorem ov_yadd (post : Int32 → SY → Prop) (N : Nat) (hN : N ≤ 5) (sz : Nat) (hz : sz ≤ 12) (base md fo : Nat → Int32) (x : Int32) (h0 : (x < 0 ∨ nI (3 ^ N) ≤ x) → post (-1) (nI N, nI (3 ^ N), nI sz, base, md, fo)) (h1 : ∀ c, c < 3 ^ N → x = nI c → ∀ i, i < sz → base i = x → post 0 (nI N, nI (3 ^ N), nI sz, base, md, fo)) (h2 : ∀ c, c < 3 ^ N → x = nI c → (∀ i, i < sz → base i ≠ x) → sz = 12 → post (-3) (nI N, nI (3 ^ N), nI sz, base, md, fo)) (h3 : ∀ c, c < 3 ^ N → x = nI c → (∀ i, i < sz → base i ≠ x) → sz < 12 → post 1 (nI N, nI (3 ^ N), nI (sz + 1), upd base sz x, md, fo)) : wpY_add post (nI N, nI (3 ^ N), nI sz, base, md, fo) x := by
  unfold wpY_add
  dsimp only
  have es : (nI sz).toNatClampNeg = sz := nI_clamp (by omega)
  refine ov_yis _ N hN sz hz base md fo x (fun g => br_t rfl (h0 g)) (fun c hc e => br_f (by decide) ?_)
  refine ov_ypl _ N hN sz hz base md fo x (fun i hi g => br_f (nI_pos (by omega)) (h1 c hc e i hi g)) (fun g => br_t (by decide) ?_)
  exact pk_eq sz 12 (fun q => h2 c hc e g q) (fun q => ⟨pk_in sz 12 (by omega), nm_r (e' := upd base sz x) (by rw [es]) (nm_r (nI_1 sz) (h3 c hc e g (by omega)))⟩)
theorem ov_yret (post : Int32 → SY → Prop) (N : Nat) (hN : N ≤ 5) (sz : Nat) (hz : sz ≤ 12) (base md fo : Nat → Int32) (x : Int32) (h0 : (x < 0 ∨ nI (3 ^ N) ≤ x) → post (-1) (nI N, nI (3 ^ N), nI sz, base, md, fo)) (h1 : ∀ c, c < 3 ^ N → x = nI c → ∀ i, i < sz → base i = x → post 1 (nI N, nI (3 ^ N), nI (sz - 1), upd base i (base (sz - 1)), md, fo)) (h2 : ∀ c, c < 3 ^ N → x = nI c → (∀ i, i < sz → base i ≠ x) → post 0 (nI N, nI (3 ^ N), nI sz, base, md, fo)) : wpY_retract post (nI N, nI (3 ^ N), nI sz, base, md, fo) x := by
  unfold wpY_retract
  dsimp only
  have es : (nI (sz - 1)).toNatClampNeg = sz - 1 := nI_clamp (by omega)
  refine ov_yis _ N hN sz hz base md fo x (fun g => br_t rfl (h0 g)) (fun c hc e => br_f (by decide) ?_)
  refine ov_ypl _ N hN sz hz base md fo x (fun i hi g => br_t (nI_pos' (by omega)) ?_) (fun g => br_f (by decide) (h2 c hc e g))
  have ei : (nI i).toNatClampNeg = i := nI_clamp (by omega)
  exact nm_r (pk_sub (b := 1) (by omega)) ⟨pk_in (sz - 1) 12 (by omega), pk_in i 12 (by omega), nm_r (e' := upd base i (base (sz - 1))) (by rw [es, ei]) (h1 c hc e i hi g)⟩
theorem ov_yimp (post : Int32 → SY → Prop) (N : Nat) (hN : N ≤ 5) (sz : Nat) (hz : sz ≤ 12) (base md fo : Nat → Int32) (b : Nat → Nat) (hB : ov_Bas N sz base b) (x : Int32) (h0 : (x < 0 ∨ nI (3 ^ N) ≤ x) → post 0 (nI N, nI (3 ^ N), nI sz, base, md, fo)) (h1 : ∀ c, c < 3 ^ N → x = nI c → ∀ md, post (ov_bI (ov_fl N (ov_my N b (-1) sz) c)) (nI N, nI (3 ^ N), nI sz, base, md, fo)) : wpY_implied post (nI N, nI (3 ^ N), nI sz, base, md, fo) x := by
  have h3 := ov_p3 hN
  unfold wpY_implied
  dsimp only
  refine ov_yis _ N hN sz hz base md fo x (fun g => br_t rfl (h0 g)) (fun c hc e => br_f (by decide) ?_)
  refine ov_ymod _ (-1) N hN sz hz base md fo b hB (fun md' hM => ?_)
  exact ov_yfn _ N hN sz hz base md' fo _ hM c (by omega) x e ⟨ov_nb _, h1 c hc e md'⟩
theorem ov_yprimes8 (post : Int32 → SY → Prop) (N : Nat) (hN : N ≤ 5) (sz : Nat) (hz : sz ≤ 12) (base md fo : Nat → Int32) (M : Nat → Bool) (hf : ov_Fo N fo M) : ∀ d c k, c + d = 3 ^ N → post (nI (k + ov_cn (ov_pr N M) d c)) (nI N, nI (3 ^ N), nI sz, base, md, fo) → wY_primes_8 post (nI N) (nI (3 ^ N)) (nI sz) base md fo (d + 1) (nI k) (nI c) := by
  have h3 := ov_p3 hN
  intro d
  induction d with
  | zero =>
    intro c k hc hp
    exact br_t (nI_le (by omega) (by omega)) hp
  | succ d ih =>
    intro c k hc hp
    refine br_f (nI_ge (by omega) (by omega)) (ov_yprime _ N hN sz hz base md fo M hf c (by omega) (ov_br _ (fun g => nm_r (nI_1 c) (ih (c + 1) k (by omega) ?_)) (fun g => nm_r (nI_1 k) (nm_r (nI_1 c) (ih (c + 1) (k + 1) (by omega) ?_)))))
    · rw [ov_cn_f d g] at hp
      exact hp
    · rw [ov_cn_t d g, ← Nat.add_assoc] at hp
      exact hp
theorem ov_yprimes (post : Int32 → SY → Prop) (N : Nat) (hN : N ≤ 5) (sz : Nat) (hz : sz ≤ 12) (base md fo : Nat → Int32) (b : Nat → Nat) (hB : ov_Bas N sz base b) (hp : ∀ md fo, post (nI (ov_cn (ov_pr N (ov_my N b (-1) sz)) (3 ^ N) 0)) (nI N, nI (3 ^ N), nI sz, base, md, fo)) : wpY_primes post (nI N, nI (3 ^ N), nI sz, base, md, fo) := by
  unfold wpY_primes
  dsimp only
  refine ov_yff _ N hN sz hz base md fo b hB (fun md' fo' hM hf => ⟨3 ^ N + 1, ov_yprimes8 post N hN sz hz base md' fo' _ hf (3 ^ N) 0 0 (by omega) ?_⟩)
  rw [Nat.zero_add]
  exact hp md' fo'
theorem ov_yprime8 (post : Int32 → SY → Prop) (N : Nat) (hN : N ≤ 5) (sz : Nat) (hz : sz ≤ 12) (base md fo : Nat → Int32) (M : Nat → Bool) (hf : ov_Fo N fo M) (k : Int32) : ∀ d c b, c + d = 3 ^ N → post (ov_kp k (ov_pr N M) d c b) (nI N, nI (3 ^ N), nI sz, base, md, fo) → wY_prime_8 post k (nI N) (nI (3 ^ N)) (nI sz) base md fo (d + 1) (nI b) (nI c) := by
  have h3 := ov_p3 hN
  intro d
  induction d with
  | zero =>
    intro c b hc hp
    exact br_t (nI_le (by omega) (by omega)) hp
  | succ d ih =>
    intro c b hc hp
    refine br_f (nI_ge (by omega) (by omega)) (ov_yprime _ N hN sz hz base md fo M hf c (by omega) (ov_br _ (fun g => nm_r (nI_1 c) (ih (c + 1) b (by omega) ?_)) (fun g => br_c (fun e => ?_) (fun e => nm_r (nI_1 b) (nm_r (nI_1 c) (ih (c + 1) (b + 1) (by omega) ?_))))))
    · rw [ov_kp_f d b g] at hp
      exact hp
    · rw [ov_kp_t d b g e] at hp
      exact hp
    · rw [ov_kp_n d b g e] at hp
      exact hp
theorem ov_yprimek (post : Int32 → SY → Prop) (N : Nat) (hN : N ≤ 5) (sz : Nat) (hz : sz ≤ 12) (base md fo : Nat → Int32) (b : Nat → Nat) (hB : ov_Bas N sz base b) (k : Int32) (hp : ∀ md fo, post (ov_kp k (ov_pr N (ov_my N b (-1) sz)) (3 ^ N) 0 0) (nI N, nI (3 ^ N), nI sz, base, md, fo)) : wpY_prime post (nI N, nI (3 ^ N), nI sz, base, md, fo) k := by
  unfold wpY_prime
  dsimp only
  exact ov_yff _ N hN sz hz base md fo b hB (fun md' fo' hM hf => ⟨3 ^ N + 1, ov_yprime8 post N hN sz hz base md' fo' _ hf k (3 ^ N) 0 0 (by omega) (hp md' fo')⟩)
theorem ov_ypw16 (post : Int32 → SY → Prop) (N : Nat) (hN : N ≤ 5) (sz : Nat) (hz : sz ≤ 12) (base md fo : Nat → Int32) (M : Nat → Bool) (hf : ov_Fo N fo M) (o : Nat) (ho : o < 3 ^ N) : ∀ d c, c + d = 3 ^ N → post (ov_ff (fun e => ov_zw N e o && ov_pr N M e) d c) (nI N, nI (3 ^ N), nI sz, base, md, fo) → wY_primeWithin_16 post (nI o) (nI N) (nI (3 ^ N)) (nI sz) base md fo (d + 1) (nI c) := by
  have h3 := ov_p3 hN
  intro d
  induction d with
  | zero =>
    intro c hc hp
    exact br_t (nI_le (by omega) (by omega)) hp
  | succ d ih =>
    intro c hc hp
    refine br_f (nI_ge (by omega) (by omega)) (ov_yw _ N hN sz hz base md fo c o (by omega) (by omega) (ov_br _ (fun g => nm_r (nI_1 c) (ih (c + 1) (by omega) ?_)) (fun g => ov_yprime _ N hN sz hz base md fo M hf c (by omega) (ov_br _ (fun e => nm_r (nI_1 c) (ih (c + 1) (by omega) ?_)) (fun e => ?_)))))
    · rw [ov_ff_f d (by rw [g, Bool.false_and])] at hp
      exact hp
    · rw [ov_ff_f d (by rw [e, Bool.and_false])] at hp
      exact hp
    · rw [ov_ff_t d (by rw [g, e, Bool.and_true])] at hp
      exact hp
theorem ov_ypw (post : Int32 → SY → Prop) (N : Nat) (hN : N ≤ 5) (sz : Nat) (hz : sz ≤ 12) (base md fo : Nat → Int32) (b : Nat → Nat) (hB : ov_Bas N sz base b) (x : Int32) (h0 : (x < 0 ∨ nI (3 ^ N) ≤ x) → post (-1) (nI N, nI (3 ^ N), nI sz, base, md, fo)) (h1 : ∀ c, c < 3 ^ N → x = nI c → ∀ md fo, post (ov_ff (fun e => ov_zw N e c && ov_pr N (ov_my N b (-1) sz) e) (3 ^ N) 0) (nI N, nI (3 ^ N), nI sz, base, md, fo)) : wpY_primeWithin post (nI N, nI (3 ^ N), nI sz, base, md, fo) x := by
  unfold wpY_primeWithin
  dsimp only
  refine ov_yis _ N hN sz hz base md fo x (fun g => br_t rfl (h0 g)) (fun c hc e => br_f (by decide) ?_)
  subst e
  exact ov_yff _ N hN sz hz base md fo b hB (fun md' fo' hM hf => ⟨3 ^ N + 1, ov_ypw16 post N hN sz hz base md' fo' _ hf c hc (3 ^ N) 0 (by omega) (h1 c hc rfl md' fo')⟩)
theorem ov_ymod9 (post : Int32 → SY → Prop) (N : Nat) (hN : N ≤ 5) (sz : Nat) (hz : sz ≤ 12) (base md fo : Nat → Int32) (M : Nat → Bool) (hM : ov_Md N md M) : ∀ d a k, a + d = 2 ^ N → post (nI (k + ov_cn M d a)) (nI N, nI (3 ^ N), nI sz, base, md, fo) → wY_models_9 post (nI N) (nI (3 ^ N)) (nI sz) base md fo (d + 1) (nI k) (nI a) := by
  have h2 := ov_p2 hN
  intro d
  induction d with
  | zero =>
    intro a k ha hp
    exact br_t (by rw [ov_sh1 N (by omega)]; exact nI_le (by omega) (by omega)) hp
  | succ d ih =>
    intro a k ha hp
    have ea : (nI a).toNatClampNeg = a := nI_clamp (by omega)
    refine br_f (by rw [ov_sh1 N (by omega)]; exact nI_ge (by omega) (by omega)) ⟨pk_in a 32 (by omega), ?_⟩
    rw [ea, hM a (by omega)]
    refine ov_br _ (fun g => nm_r (nI_1 a) (ih (a + 1) k (by omega) ?_)) (fun g => nm_r (nI_1 k) (nm_r (nI_1 a) (ih (a + 1) (k + 1) (by omega) ?_)))
    · rw [ov_cn_f d g] at hp
      exact hp
    · rw [ov_cn_t d g, ← Nat.add_assoc] at hp
      exact hp
theorem ov_ymods (post : Int32 → SY → Prop) (N : Nat) (hN : N ≤ 5) (sz : Nat) (hz : sz ≤ 12) (base md fo : Nat → Int32) (b : Nat → Nat) (hB : ov_Bas N sz base b) (hp : ∀ md, post (nI (ov_cn (ov_my N b (-1) sz) (2 ^ N) 0)) (nI N, nI (3 ^ N), nI sz, base, md, fo)) : wpY_models post (nI N, nI (3 ^ N), nI sz, base, md, fo) := by
  unfold wpY_models
  dsimp only
  refine ov_ymod _ (-1) N hN sz hz base md fo b hB (fun md' hM => ⟨2 ^ N + 1, ov_ymod9 post N hN sz hz base md' fo _ hM (2 ^ N) 0 0 (by omega) ?_⟩)
  rw [Nat.zero_add]
  exact hp md'
theorem ov_ylm19 (post : Int32 → SY → Prop) (N : Nat) (hN : N ≤ 5) (sz : Nat) (hz : sz ≤ 12) (base md fo : Nat → Int32) (M : Nat → Bool) (hM : ov_Md N md M) (vs mk : Int32) : ∀ d a, a + d = 2 ^ N → post (ov_ff (fun e => M e && decide (((nI e ^^^ vs) &&& mk) = 0)) d a) (nI N, nI (3 ^ N), nI sz, base, md, fo) → wY_leastModel_19 post vs mk (nI N) (nI (3 ^ N)) (nI sz) base md fo (d + 1) (nI a) := by
  have h2 := ov_p2 hN
  intro d
  induction d with
  | zero =>
    intro a ha hp
    exact br_t (by rw [ov_sh1 N (by omega)]; exact nI_le (by omega) (by omega)) hp
  | succ d ih =>
    intro a ha hp
    have ea : (nI a).toNatClampNeg = a := nI_clamp (by omega)
    refine br_f (by rw [ov_sh1 N (by omega)]; exact nI_ge (by omega) (by omega)) ⟨pk_in a 32 (by omega), ?_⟩
    rw [ea, hM a (by omega)]
    refine ov_br _ (fun g => nm_r (nI_1 a) (ih (a + 1) (by omega) ?_)) (fun g => br_c (fun z => ?_) (fun z => nm_r (nI_1 a) (ih (a + 1) (by omega) ?_)))
    · rw [ov_ff_f d (by rw [g, Bool.false_and])] at hp
      exact hp
    · rw [ov_ff_t d (by rw [g, decide_eq_true z, Bool.and_true])] at hp
      exact hp
    · rw [ov_ff_f d (by rw [decide_eq_false z, Bool.and_false])] at hp
      exact hp
theorem ov_ylm (post : Int32 → SY → Prop) (N : Nat) (hN : N ≤ 5) (sz : Nat) (hz : sz ≤ 12) (base md fo : Nat → Int32) (b : Nat → Nat) (hB : ov_Bas N sz base b) (fx vs : Int32) (hp : ∀ md, post (ov_ff (fun e => ov_my N b (-1) sz e && decide (((nI e ^^^ vs) &&& (fx &&& (nI (2 ^ N) - 1))) = 0)) (2 ^ N) 0) (nI N, nI (3 ^ N), nI sz, base, md, fo)) : wpY_leastModel post (nI N, nI (3 ^ N), nI sz, base, md, fo) fx vs := by
  unfold wpY_leastModel
  dsimp only
  refine ov_ymod _ (-1) N hN sz hz base md fo b hB (fun md' hM => nm_r (e' := fx &&& (nI (2 ^ N) - 1)) (by rw [ov_sh1 N (by omega)]) ⟨2 ^ N + 1, ov_ylm19 post N hN sz hz base md' fo _ hM vs _ (2 ^ N) 0 (by omega) (hp md')⟩)
def ov_ry (N : Nat) (b : Nat → Nat) (sz i : Nat) : Bool := ov_fl N (ov_my N b (nI i) sz) (b i)
theorem ov_yred4 (post : Int32 → SY → Prop) (N : Nat) (hN : N ≤ 5) (sz : Nat) (hz : sz ≤ 12) (base fo : Nat → Int32) (b : Nat → Nat) (hB : ov_Bas N sz base b) : ∀ d i k md, i + d = sz → (∀ md, post (nI (k + ov_cn (ov_ry N b sz) d i)) (nI N, nI (3 ^ N), nI sz, base, md, fo)) → wY_redundant_4 post (d + 1) (nI k) (nI i) (nI N) (nI (3 ^ N)) (nI sz) base md fo := by
  have h3 := ov_p3 hN
  intro d
  induction d with
  | zero =>
    intro i k md hi hp
    exact br_t (nI_le (by omega) (by omega)) (hp md)
  | succ d ih =>
    intro i k md hi hp
    have ei : (nI i).toNatClampNeg = i := nI_clamp (by omega)
    have hb := hB i (by omega)
    refine br_f (nI_ge (by omega) (by omega)) (ov_ymod _ (nI i) N hN sz hz base md fo b hB (fun md' hM => ⟨pk_in i 12 (by omega), ov_yfn _ N hN sz hz base md' fo _ hM (b i) (by omega) _ (by rw [ei]; exact hb.2) (ov_br _ (fun g => nm_r (nI_1 i) (ih (i + 1) k md' (by omega) (fun m => ?_))) (fun g => nm_r (nI_1 k) (nm_r (nI_1 i) (ih (i + 1) (k + 1) md' (by omega) (fun m => ?_)))))⟩))
    · have := hp m
      rw [ov_cn_f (p := ov_ry N b sz) d g] at this
      exact this
    · have := hp m
      rw [ov_cn_t (p := ov_ry N b sz) d g, ← Nat.add_assoc] at this
      exact this
theorem ov_yred (post : Int32 → SY → Prop) (N : Nat) (hN : N ≤ 5) (sz : Nat) (hz : sz ≤ 12) (base md fo : Nat → Int32) (b : Nat → Nat) (hB : ov_Bas N sz base b) (hp : ∀ md, post (nI (ov_cn (ov_ry N b sz) sz 0)) (nI N, nI (3 ^ N), nI sz, base, md, fo)) : wpY_redundant post (nI N, nI (3 ^ N), nI sz, base, md, fo) :=
  ⟨sz + 1, ov_yred4 post N hN sz hz base fo b hB sz 0 0 md (by omega) (fun m => by rw [Nat.zero_add]; exact hp m)⟩
theorem ov_y54 (post : SY → Prop) (N : Nat) (h2 : 2 ≤ N) (h5 : N ≤ 5) (fn fc fs : Int32) (base md fo : Nat → Int32) (hp : post (nI N, nI (3 ^ N), fs, base, md, fo)) : wY_init_54 post (nI N) fn fc fs base md fo := by
  rcases (show N = 2 ∨ N = 3 ∨ N = 4 ∨ N = 5 by omega) with e | e | e | e <;> subst e
  · exact br_t rfl hp
  · exact br_f (by decide) (br_t rfl hp)
  · exact br_f (by decide) (br_f (by decide) (br_t rfl hp))
  · exact br_f (by decide) (br_f (by decide) (br_f (by decide) hp))
