/-! the component: the table of falsifiers, sets of models, follows, prime -/
def ov_Fal (N : Nat) (fal : Nat → Int64) : Prop := ∀ c, c < 3 ^ N → ∀ j, j < 64 → ov_b (fal c) j = (decide (j < 2 ^ N) && !ov_zs N j c)
theorem ov_xf12 (post : SX → Prop) (J2 : Int32 → (Nat → Int64) → (Nat → Int32) → Prop) (N : Nat) (hN : N ≤ 5) (fc fb : Int32) (inb : Nat → Int32) (c : Nat) (hc : c < 243) : ∀ d a fal, a + d = 2 ^ N → (∀ fal', (∀ k, k ≠ c → fal' k = fal k) → (∀ j, j < 64 → ov_b (fal' c) j = (decide (j < 2 ^ N) && !ov_zs N j c)) → J2 (nI (c + 1)) fal' inb) → (∀ j, j < 64 → ov_b (fal c) j = (decide (j < a) && !ov_zs N j c)) → wX_fillFalsifiers_12 post J2 (nI c) (nI N) fc (nI (2 ^ N)) fb (d + 1) (nI a) fal inb := by
  have h2 := ov_p2 hN
  intro d
  induction d with
  | zero =>
    intro a fal ha hJ hb
    refine br_t (nI_le (by omega) (by omega)) (nm_r (nI_1 c) (hJ fal (fun _ _ => rfl) ?_))
    rw [show 2 ^ N = a by omega]
    exact hb
  | succ d ih =>
    intro a fal ha hJ hb
    have ec : (nI c).toNatClampNeg = c := nI_clamp (by omega)
    refine br_f (nI_ge (by omega) (by omega)) (ov_xsat _ N hN fc (nI (2 ^ N)) fb fal inb a c (by omega) (by omega) (ov_br (ov_zs N a c) (fun g => ⟨pk_in c 243 hc, pk_in c 243 hc, nm_r (e' := vp_updL fal c (fal c ||| ((1 : Int64) <<< ((nI a).toInt64 &&& 63)))) (by rw [ec]) (nm_r (nI_1 a) (ih (a + 1) _ (by omega) (fun fal' k1 k2 => hJ fal' (fun k hk => (k1 k hk).trans (pk_uLn hk)) k2) ?_))⟩) (fun g => nm_r (nI_1 a) (ih (a + 1) fal (by omega) hJ ?_))))
    · intro j hj
      rw [pk_uLs, ov_b_or, hb j hj, ov_b_shl a (by omega) j hj]
      by_cases e : j = a
      · rw [e, g, decide_eq_true rfl, decide_eq_true (show a < a + 1 by omega)]
        simp
      · rw [decide_eq_false e, Bool.or_false]
        congr 1
        exact decide_eq_decide.mpr (by omega)
    · intro j hj
      rw [hb j hj]
      by_cases e : j = a
      · rw [e, g]
        simp
      · congr 1
        exact decide_eq_decide.mpr (by omega)
theorem ov_xf2 (post : SX → Prop) (N : Nat) (hN : N ≤ 5) (fb : Int32) (inb : Nat → Int32) (hp : ∀ fal, ov_Fal N fal → post (nI N, nI (3 ^ N), nI (2 ^ N), fb, fal, inb)) : ∀ d c fal, c + d = 3 ^ N → (∀ k, k < c → ∀ j, j < 64 → ov_b (fal k) j = (decide (j < 2 ^ N) && !ov_zs N j k)) → (∀ k, c ≤ k → fal k = 0) → wX_fillFalsifiers_2 post (nI N) (nI (3 ^ N)) (nI (2 ^ N)) fb (d + 1) (nI c) fal inb := by
  have h3 := ov_p3 hN
  intro d
  induction d with
  | zero =>
    intro c fal hc h1 h2
    refine br_t (nI_le (by omega) (by omega)) (hp fal (fun k hk => h1 k (by omega)))
  | succ d ih =>
    intro c fal hc h1 h2
    refine br_f (nI_ge (by omega) (by omega)) ⟨2 ^ N + 1, ov_xf12 post _ N hN (nI (3 ^ N)) fb inb c (by omega) (2 ^ N) 0 fal (by omega) (fun fal' k1 k2 => ih (c + 1) fal' (by omega) (fun k hk => ?_) (fun k hk => (k1 k (by omega)).trans (h2 k (by omega)))) (fun j hj => ?_)⟩
    · rcases Nat.eq_or_lt_of_le (Nat.le_of_lt_succ hk) with e | e
      · rw [e]; exact k2
      · rw [k1 k (by omega)]; exact h1 k e
    · rw [h2 c (Nat.le_refl c), ov_b_0, decide_eq_false (show ¬ j < 0 by omega), Bool.false_and]
theorem ov_xfill (post : SX → Prop) (N : Nat) (hN : N ≤ 5) (fb : Int32) (inb : Nat → Int32) (hp : ∀ fal, ov_Fal N fal → post (nI N, nI (3 ^ N), nI (2 ^ N), fb, fal, inb)) : wpX_fillFalsifiers post (nI N, nI (3 ^ N), nI (2 ^ N), fb, (fun _ => 0), inb) :=
  ⟨3 ^ N + 1, ov_xf2 post N hN fb inb hp (3 ^ N) 0 (fun _ => 0) (by omega) (fun k hk => absurd hk (by omega)) (fun _ _ => rfl)⟩
def ov_mq (N : Nat) (inb : Nat → Int32) (lo : Int32) (j c : Nat) : Bool := decide (inb c = 0) || (decide (nI c = lo) || ov_zs N j c)
def ov_mx (N : Nat) (inb : Nat → Int32) (lo : Int32) (n j : Nat) : Bool := ov_al (ov_mq N inb lo j) n 0
theorem ov_mx_sn (N : Nat) (inb : Nat → Int32) (lo : Int32) (n j : Nat) : ov_mx N inb lo (n + 1) j = (ov_mx N inb lo n j && ov_mq N inb lo j n) := ov_al_sn _ _
def ov_Set (N : Nat) (S : Int64) (M : Nat → Bool) : Prop := ∀ j, j < 64 → ov_b S j = (decide (j < 2 ^ N) && M j)
theorem ov_xm12 (post : Int64 → Prop) (lo : Int32) (N : Nat) (hN : N ≤ 5) (fb : Int32) (fal : Nat → Int64) (inb : Nat → Int32) (hF : ov_Fal N fal) (hp : ∀ S, ov_Set N S (ov_mx N inb lo (3 ^ N)) → post S) : ∀ d c S, c + d = 3 ^ N → ov_Set N S (ov_mx N inb lo c) → wX_modelsWithout_12 post lo (nI N) (nI (3 ^ N)) (nI (2 ^ N)) fb fal inb (d + 1) S (nI c) := by
  have h3 := ov_p3 hN
  intro d
  induction d with
  | zero =>
    intro c S hc hS
    refine br_t (nI_le (by omega) (by omega)) (hp S ?_)
    rw [show 3 ^ N = c by omega]
    exact hS
  | succ d ih =>
    intro c S hc hS
    have ec : (nI c).toNatClampNeg = c := nI_clamp (by omega)
    refine br_f (nI_ge (by omega) (by omega)) ⟨pk_in c 243 (by omega), br_c (fun z => nm_r (nI_1 c) (ih (c + 1) S (by omega) (fun j hj => ?_))) (fun z => br_c (fun e => nm_r (nI_1 c) (ih (c + 1) S (by omega) (fun j hj => ?_))) (fun e => ⟨pk_in c 243 (by omega), nm_r (e' := S &&& (fal c ^^^ (-1))) (by rw [ec]) (nm_r (nI_1 c) (ih (c + 1) _ (by omega) (fun j hj => ?_)))⟩))⟩
    · rw [ec] at z
      rw [ov_mx_sn, hS j hj, show ov_mq N inb lo j c = true by unfold ov_mq; rw [decide_eq_true z, Bool.true_or], Bool.and_true]
    · rw [ov_mx_sn, hS j hj, show ov_mq N inb lo j c = true by unfold ov_mq; rw [decide_eq_true e, Bool.true_or, Bool.or_true], Bool.and_true]
    · rw [ec] at z
      rw [ov_mx_sn, ov_b_and, hS j hj, ov_b_not _ hj, hF c (by omega) j hj, show ov_mq N inb lo j c = ov_zs N j c by unfold ov_mq; rw [decide_eq_false z, decide_eq_false e, Bool.false_or, Bool.false_or]]
      cases decide (j < 2 ^ N) <;> cases ov_mx N inb lo c j <;> cases ov_zs N j c <;> rfl
theorem ov_xmw (post : Int64 → Prop) (lo : Int32) (N : Nat) (hN : N ≤ 5) (fb : Int32) (fal : Nat → Int64) (inb : Nat → Int32) (hF : ov_Fal N fal) (hp : ∀ S, ov_Set N S (ov_mx N inb lo (3 ^ N)) → post S) : wpX_modelsWithout post (nI N, nI (3 ^ N), nI (2 ^ N), fb, fal, inb) lo := by
  refine nm_e ⟨3 ^ N + 1, ov_xm12 post lo N hN fb fal inb hF hp (3 ^ N) 0 _ (by omega) (fun j hj => ?_)⟩
  rw [ov_b_full N (by omega) j hj]
  show _ = (_ && true)
  rw [Bool.and_true]
theorem ov_sf {N : Nat} (hN : N ≤ 5) {fal : Nat → Int64} (hF : ov_Fal N fal) {S : Int64} {M : Nat → Bool} (hS : ov_Set N S M) {c : Nat} (hc : c < 3 ^ N) : (S &&& fal c) = 0 ↔ ov_fl N M c = true := by
  have h2 := ov_p2 hN
  rw [ov_b_z, ov_fl_iff]
  constructor
  · intro h j hj hm
    have := h j (by omega)
    rw [ov_b_and, hS j (by omega), hF c hc j (by omega), decide_eq_true hj, hm] at this
    simpa using this
  · intro h j hj
    rw [ov_b_and, hS j hj, hF c hc j hj]
    by_cases g : j < 2 ^ N
    · cases hm : M j with
      | false => simp
      | true => rw [h j g hm]; simp
    · rw [decide_eq_false g]; rfl
theorem ov_xall (post : Int32 → Prop) (N : Nat) (hN : N ≤ 5) (fb : Int32) (fal : Nat → Int64) (inb : Nat → Int32) (hF : ov_Fal N fal) (S : Int64) (M : Nat → Bool) (hS : ov_Set N S M) (c : Nat) (hc : c < 3 ^ N) (x : Int32) (hx : x = nI c) (hp : post (ov_bI (ov_fl N M c))) : wpX_allSatisfy post (nI N, nI (3 ^ N), nI (2 ^ N), fb, fal, inb) S x := by
  have h3 := ov_p3 hN
  subst hx
  have ec : (nI c).toNatClampNeg = c := nI_clamp (by omega)
  have hs := ov_sf hN hF hS hc
  refine ⟨pk_in c 243 (by omega), br_c (fun z => ?_) (fun z => ?_)⟩
  · rw [ec, hs] at z
    rw [z] at hp
    exact hp
  · rw [ec, hs, Bool.not_eq_true] at z
    rw [z] at hp
    exact hp
theorem ov_x57 (post : Int32 → Prop) (J20 : Int32 → Int32 → Int32 → Prop) (x1 : Int64) (x3 : Int32) (c w v : Nat) (hc : c < 2 ^ 31) (fv fc fa fb : Int32) (fal : Nat → Int64) (inb : Nat → Int32) (h : J20 (nI (c / 3)) (nI (w * 3)) (nI (v + 1))) : wX_isPrime_57 post J20 x1 x3 (nI c) (nI w) (nI v) fv fc fa fb fal inb :=
  ⟨by decide, nm_r (pk_div (d := 3) hc (by decide) (by decide)) (nm_r (pk_mul w 3) (nm_r (nI_1 v) h))⟩
def ov_pq (N : Nat) (M : Nat → Bool) (c v : Nat) : Bool := decide (c / 3 ^ v % 3 = 0) || !ov_fl N M (c - c / 3 ^ v % 3 * 3 ^ v)
theorem ov_xp20 (post : Int32 → Prop) (N : Nat) (hN : N ≤ 5) (fb : Int32) (fal : Nat → Int64) (inb : Nat → Int32) (hF : ov_Fal N fal) (S : Int64) (M : Nat → Bool) (hS : ov_Set N S M) (c : Nat) (hc : c < 3 ^ N) : ∀ d v, v + d = N → post (ov_bI (ov_al (ov_pq N M c) d v)) → wX_isPrime_20 post S (nI c) (nI N) (nI (3 ^ N)) (nI (2 ^ N)) fb fal inb (d + 1) (nI (c / 3 ^ v)) (nI (3 ^ v)) (nI v) := by
  have h3 := ov_p3 hN
  intro d
  induction d with
  | zero =>
    intro v hv hp
    exact br_t (nI_le (by omega) (by omega)) hp
  | succ d ih =>
    intro v hv hp
    have hc' : c / 3 ^ v < 2 ^ 31 := Nat.lt_of_le_of_lt (Nat.div_le_self _ _) (by omega)
    have key : ov_pq N M c v = true → wX_isPrime_57 post (wX_isPrime_20 post S (nI c) (nI N) (nI (3 ^ N)) (nI (2 ^ N)) fb fal inb (d + 1)) S (nI c) (nI (c / 3 ^ v)) (nI (3 ^ v)) (nI v) (nI N) (nI (3 ^ N)) (nI (2 ^ N)) fb fal inb := by
      intro g
      refine ov_x57 post _ S (nI c) _ _ v hc' _ _ _ fb fal inb ?_
      rw [ov_dv3, ← Nat.pow_succ]
      refine ih (v + 1) (by omega) ?_
      have : ov_al (ov_pq N M c) (d + 1) v = ov_al (ov_pq N M c) d (v + 1) := by
        show (ov_pq N M c v && _) = _
        rw [g, Bool.true_and]
      rw [this] at hp
      exact hp
    have hd := ov_dle c v
    refine br_f (nI_ge (by omega) (by omega)) ⟨by decide, nm_r (pk_rem (d := 3) hc' (by decide) (by decide)) (pk_eq (c / 3 ^ v % 3) 0 (fun g => key ?_) (fun g => ov_xall _ N hN fb fal inb hF S M hS (c - c / 3 ^ v % 3 * 3 ^ v) (by omega) _ (by rw [pk_mul, pk_sub hd]) (ov_br _ (fun e => key ?_) (fun e => ?_))))⟩
    · unfold ov_pq; rw [decide_eq_true g, Bool.true_or]
    · unfold ov_pq; rw [e]; simp
    · have : ov_al (ov_pq N M c) (d + 1) v = false := by
        show (ov_pq N M c v && _) = false
        rw [show ov_pq N M c v = false by unfold ov_pq; rw [decide_eq_false g, e]; rfl, Bool.false_and]
      rw [this] at hp
      exact hp
theorem ov_xprime (post : Int32 → Prop) (N : Nat) (hN : N ≤ 5) (fb : Int32) (fal : Nat → Int64) (inb : Nat → Int32) (hF : ov_Fal N fal) (S : Int64) (M : Nat → Bool) (hS : ov_Set N S M) (c : Nat) (hc : c < 3 ^ N) (hp : post (ov_bI (ov_pr N M c))) : wpX_isPrime post (nI N, nI (3 ^ N), nI (2 ^ N), fb, fal, inb) S (nI c) := by
  rw [← ov_px_pr hN M hc] at hp
  unfold wpX_isPrime
  dsimp only
  refine ov_xall _ N hN fb fal inb hF S M hS c hc _ rfl (ov_br _ (fun g => ?_) (fun g => ⟨N + 1, ?_⟩))
  · unfold ov_px at hp
    rw [g] at hp
    exact hp
  · have := ov_xp20 post N hN fb fal inb hF S M hS c hc N 0 (by omega) (by unfold ov_px at hp; rw [g] at hp; exact hp)
    rw [Nat.pow_zero, Nat.div_one] at this
    exact this
theorem ov_xcon (post : Int32 → Prop) (S : Int64) (a : Nat) (ha : a < 64) (hp : post (ov_bI (ov_b S a))) : wpX_contains post S (nI a) := by
  refine br_c (fun z => ?_) (fun z => ?_)
  · rw [ov_b_con S ha] at z
    rw [z] at hp
    exact hp
  · rw [ov_b_con S ha, Bool.not_eq_true] at z
    rw [z] at hp
    exact hp
