/-! the component: the calls that ask -/
theorem ov_cn_f {p : Nat → Bool} {v : Nat} (d : Nat) (h : p v = false) : ov_cn p (d + 1) v = ov_cn p d (v + 1) := by
  show (if p v = true then 1 else 0) + ov_cn p d (v + 1) = _
  rw [h, if_neg (by decide), Nat.zero_add]
theorem ov_cn_t {p : Nat → Bool} {v : Nat} (d : Nat) (h : p v = true) : ov_cn p (d + 1) v = 1 + ov_cn p d (v + 1) := by
  show (if p v = true then 1 else 0) + ov_cn p d (v + 1) = _
  rw [h, if_pos rfl]
theorem ov_ff_f {p : Nat → Bool} {v : Nat} (d : Nat) (h : p v = false) : ov_ff p (d + 1) v = ov_ff p d (v + 1) := by
  show (if p v = true then nI v else ov_ff p d (v + 1)) = _
  rw [h, if_neg (by decide)]
theorem ov_ff_t {p : Nat → Bool} {v : Nat} (d : Nat) (h : p v = true) : ov_ff p (d + 1) v = nI v := by
  show (if p v = true then nI v else ov_ff p d (v + 1)) = _
  rw [h, if_pos rfl]
theorem ov_kp_f {k : Int32} {p : Nat → Bool} {v : Nat} (d b : Nat) (h : p v = false) : ov_kp k p (d + 1) v b = ov_kp k p d (v + 1) b := by
  show (if p v = true then (if nI b = k then nI v else ov_kp k p d (v + 1) (b + 1)) else ov_kp k p d (v + 1) b) = _
  rw [h, if_neg (by decide)]
theorem ov_kp_t {k : Int32} {p : Nat → Bool} {v : Nat} (d b : Nat) (h : p v = true) (e : nI b = k) : ov_kp k p (d + 1) v b = nI v := by
  show (if p v = true then (if nI b = k then nI v else ov_kp k p d (v + 1) (b + 1)) else ov_kp k p d (v + 1) b) = _
  rw [h, if_pos rfl, if_pos e]
theorem ov_kp_n {k : Int32} {p : Nat → Bool} {v : Nat} (d b : Nat) (h : p v = true) (e : ¬ nI b = k) : ov_kp k p (d + 1) v b = ov_kp k p d (v + 1) (b + 1) := by
  show (if p v = true then (if nI b = k then nI v else ov_kp k p d (v + 1) (b + 1)) else ov_kp k p d (v + 1) b) = _
  rw [h, if_pos rfl, if_neg e]
theorem ov_Set_cg {N : Nat} {S : Int64} {M M' : Nat → Bool} (h : ∀ j, j < 2 ^ N → M j = M' j) (hS : ov_Set N S M) : ov_Set N S M' := by
  intro j hj
  rw [hS j hj]
  by_cases g : j < 2 ^ N
  · rw [h j g]
  · rw [decide_eq_false g]; rfl
theorem ov_xis (post : Int32 → Prop) (N : Nat) (hN : N ≤ 5) (fb : Int32) (fal : Nat → Int64) (inb : Nat → Int32) (x : Int32) (h0 : (x < 0 ∨ nI (3 ^ N) ≤ x) → post 0) (h1 : ∀ c, c < 3 ^ N → x = nI c → post 1) : wpX_isClause post (nI N, nI (3 ^ N), nI (2 ^ N), fb, fal, inb) x := by
  have h3 := ov_p3 hN
  refine br_c (fun z => h0 (Or.inl z)) (fun z => br_c (fun y => h0 (Or.inr y)) (fun y => ?_))
  rcases pk_ix x (n := 3 ^ N) (by omega) with g | g | ⟨c, hc, e⟩
  · exact absurd g z
  · exact absurd g y
  · exact h1 c hc e
theorem ov_ximp (post : Int32 → Prop) (N : Nat) (hN : N ≤ 5) (fb : Int32) (fal : Nat → Int64) (inb : Nat → Int32) (hF : ov_Fal N fal) (M : Nat → Bool) (hM : ∀ j, j < 2 ^ N → ov_mx N inb (-1) (3 ^ N) j = M j) (x : Int32) (h0 : (x < 0 ∨ nI (3 ^ N) ≤ x) → post 0) (h1 : ∀ c, c < 3 ^ N → x = nI c → post (ov_bI (ov_fl N M c))) : wpX_implied post (nI N, nI (3 ^ N), nI (2 ^ N), fb, fal, inb) x := by
  unfold wpX_implied
  dsimp only
  refine ov_xis _ N hN fb fal inb x (fun g => br_t rfl (h0 g)) (fun c hc e => br_f (by decide) ?_)
  refine ov_xmw _ (-1) N hN fb fal inb hF (fun S hS => ?_)
  refine ov_xall _ N hN fb fal inb hF S M (ov_Set_cg hM hS) c hc x e ⟨ov_nb _, h1 c hc e⟩
theorem ov_xprimes11 (post : Int32 → Prop) (N : Nat) (hN : N ≤ 5) (fb : Int32) (fal : Nat → Int64) (inb : Nat → Int32) (hF : ov_Fal N fal) (S : Int64) (M : Nat → Bool) (hS : ov_Set N S M) : ∀ d c k, c + d = 3 ^ N → post (nI (k + ov_cn (ov_pr N M) d c)) → wX_primes_11 post S (nI N) (nI (3 ^ N)) (nI (2 ^ N)) fb fal inb (d + 1) (nI k) (nI c) := by
  have h3 := ov_p3 hN
  intro d
  induction d with
  | zero =>
    intro c k hc hp
    exact br_t (nI_le (by omega) (by omega)) hp
  | succ d ih =>
    intro c k hc hp
    refine br_f (nI_ge (by omega) (by omega)) (ov_xprime _ N hN fb fal inb hF S M hS c (by omega) (ov_br _ (fun g => nm_r (nI_1 c) (ih (c + 1) k (by omega) ?_)) (fun g => nm_r (nI_1 k) (nm_r (nI_1 c) (ih (c + 1) (k + 1) (by omega) ?_)))))
    · rw [ov_cn_f d g] at hp
      exact hp
    · rw [ov_cn_t d g, ← Nat.add_assoc] at hp
      exact hp
theorem ov_xprimes (post : Int32 → Prop) (N : Nat) (hN : N ≤ 5) (fb : Int32) (fal : Nat → Int64) (inb : Nat → Int32) (hF : ov_Fal N fal) (M : Nat → Bool) (hM : ∀ j, j < 2 ^ N → ov_mx N inb (-1) (3 ^ N) j = M j) (hp : post (nI (ov_cn (ov_pr N M) (3 ^ N) 0))) : wpX_primes post (nI N, nI (3 ^ N), nI (2 ^ N), fb, fal, inb) := by
  unfold wpX_primes
  dsimp only
  refine ov_xmw _ (-1) N hN fb fal inb hF (fun S hS => ⟨3 ^ N + 1, ov_xprimes11 post N hN fb fal inb hF S M (ov_Set_cg hM hS) (3 ^ N) 0 0 (by omega) ?_⟩)
  rw [Nat.zero_add]
  exact hp
theorem ov_xprime19 (post : Int32 → Prop) (N : Nat) (hN : N ≤ 5) (fb : Int32) (fal : Nat → Int64) (inb : Nat → Int32) (hF : ov_Fal N fal) (S : Int64) (M : Nat → Bool) (hS : ov_Set N S M) (k : Int32) : ∀ d c b, c + d = 3 ^ N → post (ov_kp k (ov_pr N M) d c b) → wX_prime_19 post k S (nI N) (nI (3 ^ N)) (nI (2 ^ N)) fb fal inb (d + 1) (nI b) (nI c) := by
  have h3 := ov_p3 hN
  intro d
  induction d with
  | zero =>
    intro c b hc hp
    exact br_t (nI_le (by omega) (by omega)) hp
  | succ d ih =>
    intro c b hc hp
    refine br_f (nI_ge (by omega) (by omega)) (ov_xprime _ N hN fb fal inb hF S M hS c (by omega) (ov_br _ (fun g => nm_r (nI_1 c) (ih (c + 1) b (by omega) ?_)) (fun g => br_c (fun e => ?_) (fun e => nm_r (nI_1 b) (nm_r (nI_1 c) (ih (c + 1) (b + 1) (by omega) ?_))))))
    · rw [ov_kp_f d b g] at hp
      exact hp
    · rw [ov_kp_t d b g e] at hp
      exact hp
    · rw [ov_kp_n d b g e] at hp
      exact hp
theorem ov_xprimek (post : Int32 → Prop) (N : Nat) (hN : N ≤ 5) (fb : Int32) (fal : Nat → Int64) (inb : Nat → Int32) (hF : ov_Fal N fal) (M : Nat → Bool) (hM : ∀ j, j < 2 ^ N → ov_mx N inb (-1) (3 ^ N) j = M j) (k : Int32) (hp : post (ov_kp k (ov_pr N M) (3 ^ N) 0 0)) : wpX_prime post (nI N, nI (3 ^ N), nI (2 ^ N), fb, fal, inb) k := by
  have h3 := ov_p3 hN
  refine br_c (fun _ => ?_) (fun g => ?_)
  · refine ov_xmw _ (-1) N hN fb fal inb hF (fun S hS => ⟨3 ^ N + 1, ov_xprime19 post N hN fb fal inb hF S M (ov_Set_cg hM hS) k (3 ^ N) 0 0 (by omega) hp⟩)
  · rw [ov_kp_neg (Int32.not_le.mp g) _ _ _ _ (by omega)] at hp
    exact hp
theorem ov_xpw19 (post : Int32 → Prop) (N : Nat) (hN : N ≤ 5) (fb : Int32) (fal : Nat → Int64) (inb : Nat → Int32) (hF : ov_Fal N fal) (S : Int64) (M : Nat → Bool) (hS : ov_Set N S M) (o : Nat) (ho : o < 3 ^ N) : ∀ d c, c + d = 3 ^ N → post (ov_ff (fun e => ov_zw N e o && ov_pr N M e) d c) → wX_primeWithin_19 post (nI o) S (nI N) (nI (3 ^ N)) (nI (2 ^ N)) fb fal inb (d + 1) (nI c) := by
  have h3 := ov_p3 hN
  intro d
  induction d with
  | zero =>
    intro c hc hp
    exact br_t (nI_le (by omega) (by omega)) hp
  | succ d ih =>
    intro c hc hp
    refine br_f (nI_ge (by omega) (by omega)) (ov_xw _ N hN _ _ fb fal inb c o (by omega) (by omega) (ov_br _ (fun g => nm_r (nI_1 c) (ih (c + 1) (by omega) ?_)) (fun g => ov_xprime _ N hN fb fal inb hF S M hS c (by omega) (ov_br _ (fun e => nm_r (nI_1 c) (ih (c + 1) (by omega) ?_)) (fun e => ?_)))))
    · rw [ov_ff_f d (by rw [g, Bool.false_and])] at hp
      exact hp
    · rw [ov_ff_f d (by rw [e, Bool.and_false])] at hp
      exact hp
    · rw [ov_ff_t d (by rw [g, e, Bool.and_true])] at hp
      exact hp
theorem ov_xpw (post : Int32 → Prop) (N : Nat) (hN : N ≤ 5) (fb : Int32) (fal : Nat → Int64) (inb : Nat → Int32) (hF : ov_Fal N fal) (M : Nat → Bool) (hM : ∀ j, j < 2 ^ N → ov_mx N inb (-1) (3 ^ N) j = M j) (x : Int32) (h0 : (x < 0 ∨ nI (3 ^ N) ≤ x) → post (-1)) (h1 : ∀ c, c < 3 ^ N → x = nI c → post (ov_ff (fun e => ov_zw N e c && ov_pr N M e) (3 ^ N) 0)) : wpX_primeWithin post (nI N, nI (3 ^ N), nI (2 ^ N), fb, fal, inb) x := by
  unfold wpX_primeWithin
  dsimp only
  refine ov_xis _ N hN fb fal inb x (fun g => br_t rfl (h0 g)) (fun c hc e => br_f (by decide) ?_)
  subst e
  refine ov_xmw _ (-1) N hN fb fal inb hF (fun S hS => ⟨3 ^ N + 1, ov_xpw19 post N hN fb fal inb hF S M (ov_Set_cg hM hS) c hc (3 ^ N) 0 (by omega) (h1 c hc rfl)⟩)
theorem ov_set_in {N : Nat} (hN : N ≤ 5) {S : Int64} {M : Nat → Bool} (hS : ov_Set N S M) {a : Nat} (ha : a < 2 ^ N) : ov_b S a = M a := by
  have h2 := ov_p2 hN
  rw [hS a (by omega), decide_eq_true ha, Bool.true_and]
theorem ov_xmod11 (post : Int32 → Prop) (N : Nat) (hN : N ≤ 5) (fb : Int32) (fal : Nat → Int64) (inb : Nat → Int32) (S : Int64) (M : Nat → Bool) (hS : ov_Set N S M) : ∀ d a k, a + d = 2 ^ N → post (nI (k + ov_cn M d a)) → wX_models_11 post S (nI N) (nI (3 ^ N)) (nI (2 ^ N)) fb fal inb (d + 1) (nI k) (nI a) := by
  have h2 := ov_p2 hN
  intro d
  induction d with
  | zero =>
    intro a k ha hp
    exact br_t (nI_le (by omega) (by omega)) hp
  | succ d ih =>
    intro a k ha hp
    refine br_f (nI_ge (by omega) (by omega)) (ov_xcon _ S a (by omega) ?_)
    rw [ov_set_in hN hS (show a < 2 ^ N by omega)]
    refine ov_br _ (fun g => nm_r (nI_1 a) (ih (a + 1) k (by omega) ?_)) (fun g => nm_r (nI_1 k) (nm_r (nI_1 a) (ih (a + 1) (k + 1) (by omega) ?_)))
    · rw [ov_cn_f d g] at hp
      exact hp
    · rw [ov_cn_t d g, ← Nat.add_assoc] at hp
      exact hp
theorem ov_xmod (post : Int32 → Prop) (N : Nat) (hN : N ≤ 5) (fb : Int32) (fal : Nat → Int64) (inb : Nat → Int32) (hF : ov_Fal N fal) (M : Nat → Bool) (hM : ∀ j, j < 2 ^ N → ov_mx N inb (-1) (3 ^ N) j = M j) (hp : post (nI (ov_cn M (2 ^ N) 0))) : wpX_models post (nI N, nI (3 ^ N), nI (2 ^ N), fb, fal, inb) := by
  unfold wpX_models
  dsimp only
  refine ov_xmw _ (-1) N hN fb fal inb hF (fun S hS => ⟨2 ^ N + 1, ov_xmod11 post N hN fb fal inb S M (ov_Set_cg hM hS) (2 ^ N) 0 0 (by omega) ?_⟩)
  rw [Nat.zero_add]
  exact hp
theorem ov_xlm19 (post : Int32 → Prop) (N : Nat) (hN : N ≤ 5) (fb : Int32) (fal : Nat → Int64) (inb : Nat → Int32) (S : Int64) (M : Nat → Bool) (hS : ov_Set N S M) (vs mk : Int32) : ∀ d a, a + d = 2 ^ N → post (ov_ff (fun e => M e && decide (((nI e ^^^ vs) &&& mk) = 0)) d a) → wX_leastModel_19 post vs S mk (nI N) (nI (3 ^ N)) (nI (2 ^ N)) fb fal inb (d + 1) (nI a) := by
  have h2 := ov_p2 hN
  intro d
  induction d with
  | zero =>
    intro a ha hp
    exact br_t (nI_le (by omega) (by omega)) hp
  | succ d ih =>
    intro a ha hp
    refine br_f (nI_ge (by omega) (by omega)) (br_c (fun z => br_f (by decide) (ov_xcon _ S a (by omega) ?_)) (fun z => br_t rfl (nm_r (nI_1 a) (ih (a + 1) (by omega) ?_))))
    · rw [ov_set_in hN hS (show a < 2 ^ N by omega)]
      refine ov_br _ (fun g => nm_r (nI_1 a) (ih (a + 1) (by omega) ?_)) (fun g => ?_)
      · rw [ov_ff_f d (by rw [g, Bool.false_and])] at hp
        exact hp
      · rw [ov_ff_t d (by rw [g, decide_eq_true z, Bool.and_true])] at hp
        exact hp
    · rw [ov_ff_f d (by rw [decide_eq_false z, Bool.and_false])] at hp
      exact hp
theorem ov_xlm (post : Int32 → Prop) (N : Nat) (hN : N ≤ 5) (fb : Int32) (fal : Nat → Int64) (inb : Nat → Int32) (hF : ov_Fal N fal) (M : Nat → Bool) (hM : ∀ j, j < 2 ^ N → ov_mx N inb (-1) (3 ^ N) j = M j) (fx vs : Int32) (hp : post (ov_ff (fun e => M e && decide (((nI e ^^^ vs) &&& (fx &&& (nI (2 ^ N) - 1))) = 0)) (2 ^ N) 0)) : wpX_leastModel post (nI N, nI (3 ^ N), nI (2 ^ N), fb, fal, inb) fx vs := by
  unfold wpX_leastModel
  dsimp only
  exact ov_xmw _ (-1) N hN fb fal inb hF (fun S hS => nm_e ⟨2 ^ N + 1, ov_xlm19 post N hN fb fal inb S M (ov_Set_cg hM hS) vs _ (2 ^ N) 0 (by omega) hp⟩)
theorem ov_xibo (post : Int32 → Prop) (N : Nat) (hN : N ≤ 5) (fb : Int32) (fal : Nat → Int64) (inb : Nat → Int32) (hF : ov_Fal N fal) (c : Nat) (hc : c < 3 ^ N) (hp : post (ov_bI (ov_fl N (ov_mx N inb (nI c) (3 ^ N)) c))) : wpX_impliedByOthers post (nI N, nI (3 ^ N), nI (2 ^ N), fb, fal, inb) (nI c) := by
  unfold wpX_impliedByOthers
  dsimp only
  exact ov_xmw _ (nI c) N hN fb fal inb hF (fun S hS => ov_xall _ N hN fb fal inb hF S _ hS c hc _ rfl ⟨ov_nb _, hp⟩)
def ov_rx (N : Nat) (inb : Nat → Int32) (c : Nat) : Bool := !decide (inb c = 0) && ov_fl N (ov_mx N inb (nI c) (3 ^ N)) c
theorem ov_xred4 (post : Int32 → Prop) (N : Nat) (hN : N ≤ 5) (fb : Int32) (fal : Nat → Int64) (inb : Nat → Int32) (hF : ov_Fal N fal) : ∀ d c k, c + d = 3 ^ N → post (nI (k + ov_cn (ov_rx N inb) d c)) → wX_redundant_4 post (nI N) (nI (3 ^ N)) (nI (2 ^ N)) fb fal inb (d + 1) (nI k) (nI c) := by
  have h3 := ov_p3 hN
  intro d
  induction d with
  | zero =>
    intro c k hc hp
    exact br_t (nI_le (by omega) (by omega)) hp
  | succ d ih =>
    intro c k hc hp
    have ec : (nI c).toNatClampNeg = c := nI_clamp (by omega)
    refine br_f (nI_ge (by omega) (by omega)) ⟨pk_in c 243 (by omega), br_c (fun z => nm_r (nI_1 c) (ih (c + 1) k (by omega) ?_)) (fun z => ov_xibo _ N hN fb fal inb hF c (by omega) (ov_br _ (fun g => nm_r (nI_1 c) (ih (c + 1) k (by omega) ?_)) (fun g => nm_r (nI_1 k) (nm_r (nI_1 c) (ih (c + 1) (k + 1) (by omega) ?_)))))⟩
    · rw [ec] at z
      rw [ov_cn_f d (by unfold ov_rx; rw [decide_eq_true z]; rfl)] at hp
      exact hp
    · rw [ov_cn_f d (by unfold ov_rx; rw [g, Bool.and_false])] at hp
      exact hp
    · rw [ec] at z
      rw [ov_cn_t d (by unfold ov_rx; rw [decide_eq_false z, g]; rfl), ← Nat.add_assoc] at hp
      exact hp
theorem ov_xred (post : Int32 → Prop) (N : Nat) (hN : N ≤ 5) (fb : Int32) (fal : Nat → Int64) (inb : Nat → Int32) (hF : ov_Fal N fal) (hp : post (nI (ov_cn (ov_rx N inb) (3 ^ N) 0))) : wpX_redundant post (nI N, nI (3 ^ N), nI (2 ^ N), fb, fal, inb) :=
  ⟨3 ^ N + 1, ov_xred4 post N hN fb fal inb hF (3 ^ N) 0 0 (by omega) (by rw [Nat.zero_add]; exact hp)⟩
