section
theorem pk_us {f : Nat → Int32} {k : Nat} {x : Int32} : upd f k x k = x := if_pos rfl
theorem pk_un {f : Nat → Int32} {k j : Nat} {x : Int32} (h : j ≠ k) : upd f k x j = f j := if_neg h
theorem pk_uLs {f : Nat → Int64} {k : Nat} {x : Int64} : vp_updL f k x k = x := if_pos rfl
theorem pk_uLn {f : Nat → Int64} {k j : Nat} {x : Int64} (h : j ≠ k) : vp_updL f k x j = f j := if_neg h
theorem pk_sub {a b : Nat} (h : b ≤ a) : nI a - nI b = nI (a - b) := by
  obtain ⟨c, rfl⟩ : ∃ c, a = c + b := ⟨a - b, by omega⟩
  rw [← nI_add, Int32.add_sub_cancel, Nat.add_sub_cancel]
theorem pk_m1 (n : Nat) : nI (n + 1) + (-1) = nI n := by
  rw [← nI_1, Int32.add_assoc, show (1 : Int32) + (-1) = 0 from rfl, Int32.add_zero]
theorem pk_mul (a b : Nat) : nI a * nI b = nI (a * b) := (Int32.ofNat_mul a b).symm
theorem pk_div {a d : Nat} (ha : a < 2 ^ 31) (h0 : 0 < d) (hd : d < 2 ^ 31) : nI a / nI d = nI (a / d) := by
  apply Int32.toInt_inj.mp
  rw [lg_idiv_nonneg (by rw [nI_toInt ha]; omega) (by rw [nI_toInt hd]; omega), nI_toInt ha, nI_toInt hd, nI_toInt (Nat.lt_of_le_of_lt (Nat.div_le_self a d) ha)]
  first | rfl | exact (Int.natCast_ediv _ _).symm
theorem pk_rem {a d : Nat} (ha : a < 2 ^ 31) (h0 : 0 < d) (hd : d < 2 ^ 31) : nI a - nI a / nI d * nI d = nI (a % d) := by
  rw [pk_div ha h0 hd, pk_mul, pk_sub (Nat.div_mul_le_self a d)]
  exact congrArg nI (by have := Nat.div_add_mod' a d; omega)
theorem pk_sub_toInt {a b : Nat} (ha : a < 2 ^ 30) (hb : b < 2 ^ 30) : (nI a - nI b).toInt = (a : Int) - b := by
  rw [Int32.toInt_sub, nI_toInt (by omega), nI_toInt (by omega)]
  exact Int.bmod_eq_of_le (by omega) (by omega)
theorem pk_sneg {a b : Nat} (hb : b < 2 ^ 30) (h : a < b) : nI a - nI b < 0 := by
  rw [Int32.lt_iff_toInt_lt, pk_sub_toInt (by omega) hb, show (0 : Int32).toInt = 0 from by decide]
  omega
theorem pk_ix (x : Int32) {n : Nat} (hn : n < 2 ^ 31) : x < 0 ∨ nI n ≤ x ∨ ∃ j : Nat, j < n ∧ x = nI j := by
  by_cases h : x < 0
  · exact Or.inl h
  · obtain ⟨j, hj, rfl⟩ := nI_of h
    by_cases h2 : j < n
    · exact Or.inr (Or.inr ⟨j, h2, rfl⟩)
    · exact Or.inr (Or.inl (nI_le (by omega) hj))
theorem pk_le {x y : Int32} {A B : Prop} (a b : Nat) (f : a ≤ b → A) (g : b < a → B) (hx : x = nI a := by rfl) (hy : y = nI b := by rfl) (ha : a < 2 ^ 31 := by omega) (hb : b < 2 ^ 31 := by omega) : (x ≤ y → A) ∧ (¬ x ≤ y → B) := by
  subst hx hy
  rw [nI_leI ha hb]
  exact ⟨f, fun z => g (by omega)⟩
theorem pk_lt {x y : Int32} {A B : Prop} (a b : Nat) (f : a < b → A) (g : b ≤ a → B) (hx : x = nI a := by rfl) (hy : y = nI b := by rfl) (ha : a < 2 ^ 31 := by omega) (hb : b < 2 ^ 31 := by omega) : (x < y → A) ∧ (¬ x < y → B) := by
  subst hx hy
  rw [nI_ltI ha hb]
  exact ⟨f, fun z => g (by omega)⟩
theorem pk_eq {x y : Int32} {A B : Prop} (a b : Nat) (f : a = b → A) (g : a ≠ b → B) (hx : x = nI a := by rfl) (hy : y = nI b := by rfl) (ha : a < 2 ^ 31 := by omega) (hb : b < 2 ^ 31 := by omega) : (x = y → A) ∧ (¬ x = y → B) := by
  subst hx hy
  rw [nI_eq ha hb]
  exact ⟨f, g⟩
theorem pk_in {x : Int32} (n N : Nat) (h : n < N) (hx : x = nI n := by rfl) (hN : N < 2 ^ 31 := by omega) : vp_in x N := by
  subst hx
  exact vp_in_nI h hN
theorem pk_cl {x : Int32} (n : Nat) (hx : x = nI n := by rfl) (h : n < 2 ^ 31 := by omega) : x.toNatClampNeg = n := by
  subst hx
  exact nI_clamp h
theorem pk_tn {n : Nat} (h : n < 2 ^ 32) : (nI n).toBitVec.toNat = n := Nat.mod_eq_of_lt h
theorem pk_and (x : Int32) {m : Int32} (k : Nat) (hm : m.toBitVec.toNat = 2 ^ k - 1) : x &&& m = nI (x.toBitVec.toNat % 2 ^ k) := by
  apply Int32.toBitVec_inj.mp
  apply BitVec.eq_of_toNat_eq
  rw [Int32.toBitVec_and, BitVec.toNat_and, hm, Nat.and_two_pow_sub_one_eq_mod]
  show _ = (BitVec.ofNat 32 _).toNat
  rw [BitVec.toNat_ofNat]
  exact (Nat.mod_eq_of_lt (Nat.lt_of_le_of_lt (Nat.mod_le _ _) x.toBitVec.isLt)).symm
theorem pk_andN {n : Nat} (h : n < 2 ^ 32) {m : Int32} (k : Nat) (hm : m.toBitVec.toNat = 2 ^ k - 1) : nI n &&& m = nI (n % 2 ^ k) := by
  rw [pk_and _ k hm, pk_tn h]
theorem pk_andE (x : Int32) {m : Int32} (k : Nat) (hm : m.toBitVec.toNat = 2 ^ k - 1) : ∃ j : Nat, j < 2 ^ k ∧ x &&& m = nI j := ⟨_, Nat.mod_lt _ (Nat.two_pow_pos k), pk_and x k hm⟩
theorem pk_andIn (x : Int32) {m : Int32} (k : Nat) (hm : m.toBitVec.toNat = 2 ^ k - 1) (hk : k ≤ 30) : vp_in (x &&& m) (2 ^ k) := by
  obtain ⟨j, hj, e⟩ := pk_andE x k hm
  rw [e]
  exact vp_in_nI hj (Nat.lt_of_le_of_lt (Nat.pow_le_pow_right (by decide) hk) (by decide))
theorem pk_shl (a s : Int32) (k : Nat) (hs : (s.toBitVec.smod 32).toNat = k) : (a <<< s).toBitVec.toNat = a.toBitVec.toNat * 2 ^ k % 2 ^ 32 := by
  show (a.toBitVec <<< (s.toBitVec.smod 32).toNat).toNat = _
  rw [hs, BitVec.toNat_shiftLeft, Nat.shiftLeft_eq]
theorem pk_shlN {n : Nat} (s : Int32) (k : Nat) (hs : (s.toBitVec.smod 32).toNat = k) (h : n * 2 ^ k < 2 ^ 32) : nI n <<< s = nI (n * 2 ^ k) := by
  apply Int32.toBitVec_inj.mp
  apply BitVec.eq_of_toNat_eq
  have hn : n < 2 ^ 32 := Nat.lt_of_le_of_lt (Nat.le_mul_of_pos_right n (Nat.two_pow_pos k)) h
  rw [pk_shl _ _ k hs, pk_tn hn, pk_tn h, Nat.mod_eq_of_lt h]
theorem pk_shr (a s : Int32) (k : Nat) (hs : (s.toBitVec.smod 32).toNat = k) : (a >>> s).toInt = a.toInt >>> k := by
  show (a.toBitVec.sshiftRight (s.toBitVec.smod 32).toNat).toInt = _
  rw [hs, BitVec.toInt_sshiftRight]
  rfl
theorem pk_shrN {n : Nat} (h : n < 2 ^ 31) (s : Int32) (k : Nat) (hs : (s.toBitVec.smod 32).toNat = k) : nI n >>> s = nI (n / 2 ^ k) := by
  apply Int32.toInt_inj.mp
  have h2 : n / 2 ^ k ≤ n := Nat.div_le_self _ _
  rw [pk_shr _ _ k hs, nI_toInt h, nI_toInt (by omega), Int.shiftRight_eq_div_pow]
  rfl
end
section
/-! the pure picture: loops over a counter as any, all, count, first; digits, satisfies, within, follows, prime -/
def ov_an (p : Nat → Bool) : Nat → Nat → Bool
  | 0, _ => false
  | d + 1, v => p v || ov_an p d (v + 1)
def ov_al (p : Nat → Bool) : Nat → Nat → Bool
  | 0, _ => true
  | d + 1, v => p v && ov_al p d (v + 1)
def ov_cn (p : Nat → Bool) : Nat → Nat → Nat
  | 0, _ => 0
  | d + 1, v => (if p v = true then 1 else 0) + ov_cn p d (v + 1)
def ov_kp (k : Int32) (p : Nat → Bool) : Nat → Nat → Nat → Int32
  | 0, _, _ => -2
  | d + 1, v, b => if p v = true then (if nI b = k then nI v else ov_kp k p d (v + 1) (b + 1)) else ov_kp k p d (v + 1) b
def ov_ff (p : Nat → Bool) : Nat → Nat → Int32
  | 0, _ => -2
  | d + 1, v => if p v = true then nI v else ov_ff p d (v + 1)
def ov_bI (x : Bool) : Int32 := if x = true then 1 else 0
theorem ov_al_iff (p : Nat → Bool) : ∀ d v, ov_al p d v = true ↔ ∀ w, v ≤ w → w < v + d → p w = true := by
  intro d
  induction d with
  | zero => intro v; exact ⟨fun _ w h1 h2 => absurd h2 (by omega), fun _ => rfl⟩
  | succ d ih =>
    intro v
    show (p v && ov_al p d (v + 1)) = true ↔ _
    rw [Bool.and_eq_true, ih]
    constructor
    · intro h w h1 h2
      rcases Nat.eq_or_lt_of_le h1 with e | e
      · rw [← e]; exact h.1
      · exact h.2 w e (by omega)
    · intro h
      exact ⟨h v (Nat.le_refl v) (by omega), fun w h1 h2 => h w (by omega) (by omega)⟩
theorem ov_an_iff (p : Nat → Bool) : ∀ d v, ov_an p d v = true ↔ ∃ w, v ≤ w ∧ w < v + d ∧ p w = true := by
  intro d
  induction d with
  | zero => intro v; exact ⟨fun h => absurd h (show ¬ false = true by decide), fun ⟨w, h1, h2, _⟩ => absurd h2 (by omega)⟩
  | succ d ih =>
    intro v
    show (p v || ov_an p d (v + 1)) = true ↔ _
    rw [Bool.or_eq_true, ih]
    constructor
    · intro h
      rcases h with h | ⟨w, h1, h2, h3⟩
      · exact ⟨v, Nat.le_refl v, by omega, h⟩
      · exact ⟨w, by omega, by omega, h3⟩
    · intro ⟨w, h1, h2, h3⟩
      rcases Nat.eq_or_lt_of_le h1 with e | e
      · exact Or.inl (by rw [e]; exact h3)
      · exact Or.inr ⟨w, e, by omega, h3⟩
theorem ov_al0 (p : Nat → Bool) (n : Nat) : ov_al p n 0 = true ↔ ∀ w, w < n → p w = true := by
  rw [ov_al_iff]
  exact ⟨fun h w hw => h w (Nat.zero_le _) (by omega), fun h w _ hw => h w (by omega)⟩
theorem ov_an0 (p : Nat → Bool) (n : Nat) : ov_an p n 0 = true ↔ ∃ w, w < n ∧ p w = true := by
  rw [ov_an_iff]
  exact ⟨fun ⟨w, _, h, h'⟩ => ⟨w, by omega, h'⟩, fun ⟨w, h, h'⟩ => ⟨w, Nat.zero_le _, by omega, h'⟩⟩
theorem ov_al_sn (p : Nat → Bool) (d : Nat) : ov_al p (d + 1) 0 = (ov_al p d 0 && p d) := by
  rw [Bool.eq_iff_iff, Bool.and_eq_true, ov_al0, ov_al0]
  constructor
  · intro h
    exact ⟨fun w hw => h w (by omega), h d (by omega)⟩
  · intro h w hw
    rcases Nat.eq_or_lt_of_le (Nat.le_of_lt_succ hw) with e | e
    · rw [e]; exact h.2
    · exact h.1 w e
theorem ov_an_sn (p : Nat → Bool) (d : Nat) : ov_an p (d + 1) 0 = (ov_an p d 0 || p d) := by
  rw [Bool.eq_iff_iff, Bool.or_eq_true, ov_an0, ov_an0]
  constructor
  · intro ⟨w, hw, h⟩
    rcases Nat.eq_or_lt_of_le (Nat.le_of_lt_succ hw) with e | e
    · exact Or.inr (by rw [← e]; exact h)
    · exact Or.inl ⟨w, e, h⟩
  · intro h
    rcases h with ⟨w, hw, h⟩ | h
    · exact ⟨w, by omega, h⟩
    · exact ⟨d, by omega, h⟩
theorem ov_al_cg {p q : Nat → Bool} {n : Nat} (h : ∀ w, w < n → p w = q w) : ov_al p n 0 = ov_al q n 0 := by
  rw [Bool.eq_iff_iff, ov_al0, ov_al0]
  exact ⟨fun g w hw => by rw [← h w hw]; exact g w hw, fun g w hw => by rw [h w hw]; exact g w hw⟩
theorem ov_cn_cg {p q : Nat → Bool} : ∀ d v, (∀ w, v ≤ w → w < v + d → p w = q w) → ov_cn p d v = ov_cn q d v := by
  intro d
  induction d with
  | zero => intro v _; rfl
  | succ d ih =>
    intro v h
    show (if p v = true then 1 else 0) + ov_cn p d (v + 1) = (if q v = true then 1 else 0) + ov_cn q d (v + 1)
    rw [h v (Nat.le_refl v) (by omega), ih (v + 1) (fun w h1 h2 => h w (by omega) (by omega))]
theorem ov_cn_sn (p : Nat → Bool) : ∀ d v, ov_cn p (d + 1) v = ov_cn p d v + (if p (v + d) = true then 1 else 0) := by
  intro d
  induction d with
  | zero => intro v; show (if p v = true then 1 else 0) + 0 = 0 + (if p v = true then 1 else 0); omega
  | succ d ih =>
    intro v
    show (if p v = true then 1 else 0) + ov_cn p (d + 1) (v + 1) = ((if p v = true then 1 else 0) + ov_cn p d (v + 1)) + _
    rw [ih (v + 1), show v + 1 + d = v + (d + 1) by omega]
    omega
theorem ov_cn_or (f P : Nat → Bool) (x : Nat) (hx : f x = false) : ∀ d v, v ≤ x → x < v + d → ov_cn (fun c => (f c || decide (x = c)) && P c) d v = ov_cn (fun c => f c && P c) d v + (if P x = true then 1 else 0) := by
  intro d
  induction d with
  | zero => intro v h1 h2; exact absurd h2 (by omega)
  | succ d ih =>
    intro v h1 h2
    show (if ((f v || decide (x = v)) && P v) = true then 1 else 0) + ov_cn (fun c => (f c || decide (x = c)) && P c) d (v + 1) = ((if (f v && P v) = true then 1 else 0) + ov_cn (fun c => f c && P c) d (v + 1)) + _
    rcases Nat.eq_or_lt_of_le h1 with e | e
    · have hc : ov_cn (fun c => (f c || decide (x = c)) && P c) d (v + 1) = ov_cn (fun c => f c && P c) d (v + 1) := by
        apply ov_cn_cg
        intro w g1 g2
        show ((f w || decide (x = w)) && P w) = (f w && P w)
        rw [decide_eq_false (show ¬ x = w by omega), Bool.or_false]
      rw [hc, e, hx, decide_eq_true rfl, Bool.false_or, Bool.true_and, Bool.false_and]
      simp only [Bool.false_eq_true, if_false]
      omega
    · rw [ih (v + 1) e (by omega), decide_eq_false (show ¬ x = v by omega), Bool.or_false]
      omega
theorem ov_cn_sw (P : Nat → Bool) (b : Nat → Nat) (M : Nat) : ∀ s, (∀ i, i < s → b i < M) → (∀ i j, i < s → j < s → b i = b j → i = j) → ov_cn (fun i => P (b i)) s 0 = ov_cn (fun c => ov_an (fun i => decide (b i = c)) s 0 && P c) M 0 := by
  intro s
  induction s with
  | zero =>
    intro _ _
    have : ∀ d v, ov_cn (fun c => ov_an (fun i => decide (b i = c)) 0 0 && P c) d v = 0 := by
      intro d
      induction d with
      | zero => intro v; rfl
      | succ d ih => intro v; show 0 + _ = 0; rw [ih (v + 1)]
    rw [this M 0]
    rfl
  | succ s ih =>
    intro h1 h2
    rw [ov_cn_sn, ih (fun i hi => h1 i (by omega)) (fun i j hi hj => h2 i j (by omega) (by omega))]
    have hf : ov_an (fun i => decide (b i = b s)) s 0 = false := by
      rw [Bool.eq_false_iff]
      intro g
      obtain ⟨w, hw, e⟩ := (ov_an0 _ _).mp g
      exact absurd (h2 w s (by omega) (by omega) (of_decide_eq_true e)) (by omega)
    have := ov_cn_or (fun c => ov_an (fun i => decide (b i = c)) s 0) P (b s) hf M 0 (Nat.zero_le _) (by have := h1 s (by omega); omega)
    rw [Nat.zero_add, ← this]
    apply ov_cn_cg
    intro w _ _
    show ((ov_an (fun i => decide (b i = w)) s 0 || decide (b s = w)) && P w) = (ov_an (fun i => decide (b i = w)) (s + 1) 0 && P w)
    rw [ov_an_sn]
theorem ov_kp_neg {k : Int32} (hk : k < 0) (p : Nat → Bool) : ∀ d v b, b + d < 2 ^ 31 → ov_kp k p d v b = -2 := by
  intro d
  induction d with
  | zero => intro v b _; rfl
  | succ d ih =>
    intro v b hb
    have hn : ¬ nI b = k := fun e => nI_pos (show b < 2 ^ 31 by omega) (e ▸ hk)
    show (if p v = true then (if nI b = k then nI v else ov_kp k p d (v + 1) (b + 1)) else ov_kp k p d (v + 1) b) = -2
    rw [if_neg hn, ih (v + 1) (b + 1) (by omega), ih (v + 1) b (by omega), ite_self]
theorem ov_kp_cg {k : Int32} {p q : Nat → Bool} : ∀ d v b, (∀ w, v ≤ w → w < v + d → p w = q w) → ov_kp k p d v b = ov_kp k q d v b := by
  intro d
  induction d with
  | zero => intro v b _; rfl
  | succ d ih =>
    intro v b h
    show (if p v = true then (if nI b = k then nI v else ov_kp k p d (v + 1) (b + 1)) else ov_kp k p d (v + 1) b) = (if q v = true then (if nI b = k then nI v else ov_kp k q d (v + 1) (b + 1)) else ov_kp k q d (v + 1) b)
    rw [h v (Nat.le_refl v) (by omega), ih (v + 1) (b + 1) (fun w h1 h2 => h w (by omega) (by omega)), ih (v + 1) b (fun w h1 h2 => h w (by omega) (by omega))]
theorem ov_ff_cg {p q : Nat → Bool} : ∀ d v, (∀ w, v ≤ w → w < v + d → p w = q w) → ov_ff p d v = ov_ff q d v := by
  intro d
  induction d with
  | zero => intro v _; rfl
  | succ d ih =>
    intro v h
    show (if p v = true then nI v else ov_ff p d (v + 1)) = (if q v = true then nI v else ov_ff q d (v + 1))
    rw [h v (Nat.le_refl v) (by omega), ih (v + 1) (fun w h1 h2 => h w (by omega) (by omega))]
def ov_sp (a c v : Nat) : Bool := decide (c / 3 ^ v % 3 = if a / 2 ^ v % 2 = 1 then 1 else 2)
def ov_zs (N a c : Nat) : Bool := ov_an (ov_sp a c) N 0
def ov_wp (d c v : Nat) : Bool := decide (d / 3 ^ v % 3 = 0) || decide (d / 3 ^ v % 3 = c / 3 ^ v % 3)
def ov_zw (N d c : Nat) : Bool := ov_al (ov_wp d c) N 0
def ov_fl (N : Nat) (M : Nat → Bool) (c : Nat) : Bool := ov_al (fun j => !M j || ov_zs N j c) (2 ^ N) 0
def ov_pr (N : Nat) (M : Nat → Bool) (c : Nat) : Bool := ov_fl N M c && ov_al (fun d => decide (d = c) || (!ov_fl N M d || !ov_zw N d c)) (3 ^ N) 0
def ov_px (N : Nat) (M : Nat → Bool) (c : Nat) : Bool := ov_fl N M c && ov_al (fun v => decide (c / 3 ^ v % 3 = 0) || !ov_fl N M (c - c / 3 ^ v % 3 * 3 ^ v)) N 0
theorem ov_dgt : ∀ c, c < 243 → ∀ v, v < 5 → ∀ w, w < 5 → (c - c / 3 ^ v % 3 * 3 ^ v) / 3 ^ w % 3 = if w = v then 0 else c / 3 ^ w % 3 := by decide +kernel
theorem ov_dle (c v : Nat) : c / 3 ^ v % 3 * 3 ^ v ≤ c := Nat.le_trans (Nat.mul_le_mul_right _ (Nat.mod_le _ _)) (Nat.div_mul_le_self c (3 ^ v))
theorem ov_ext : ∀ N c d, c < 3 ^ N → d < 3 ^ N → (∀ v, v < N → c / 3 ^ v % 3 = d / 3 ^ v % 3) → c = d := by
  intro N
  induction N with
  | zero => intro c d hc hd _; rw [Nat.pow_zero] at hc hd; omega
  | succ N ih =>
    intro c d hc hd h
    rw [Nat.pow_succ] at hc hd
    have h0 := h 0 (by omega)
    rw [Nat.pow_zero, Nat.div_one, Nat.div_one] at h0
    have h1 : c / 3 = d / 3 := by
      apply ih (c / 3) (d / 3) (by omega) (by omega)
      intro v hv
      have := h (v + 1) (by omega)
      rw [Nat.pow_succ', ← Nat.div_div_eq_div_mul, ← Nat.div_div_eq_div_mul] at this
      exact this
    omega
theorem ov_p3 {N : Nat} (h : N ≤ 5) : 3 ^ N ≤ 243 := Nat.pow_le_pow_right (n := 3) (by decide) h
theorem ov_p2 {N : Nat} (h : N ≤ 5) : 2 ^ N ≤ 32 := Nat.pow_le_pow_right (n := 2) (by decide) h
theorem ov_zs_mono {N a d c : Nat} (h : ∀ v, v < N → d / 3 ^ v % 3 = 0 ∨ d / 3 ^ v % 3 = c / 3 ^ v % 3) (hs : ov_zs N a d = true) : ov_zs N a c = true := by
  obtain ⟨v, hv, e⟩ := (ov_an0 _ _).mp hs
  have e' : d / 3 ^ v % 3 = if a / 2 ^ v % 2 = 1 then 1 else 2 := of_decide_eq_true e
  refine (ov_an0 _ _).mpr ⟨v, hv, decide_eq_true ?_⟩
  rcases h v hv with g | g
  · exfalso
    rw [g] at e'
    split at e' <;> omega
  · rw [← g]; exact e'
theorem ov_fl_iff (N : Nat) (M : Nat → Bool) (c : Nat) : ov_fl N M c = true ↔ ∀ j, j < 2 ^ N → M j = true → ov_zs N j c = true := by
  unfold ov_fl
  rw [ov_al0]
  constructor
  · intro h j hj hm
    have := h j hj
    rw [hm] at this
    exact this
  · intro h j hj
    show (!M j || ov_zs N j c) = true
    cases hm : M j with
    | false => rfl
    | true => exact h j hj hm
theorem ov_fl_mono {N : Nat} {M : Nat → Bool} {d c : Nat} (h : ∀ v, v < N → d / 3 ^ v % 3 = 0 ∨ d / 3 ^ v % 3 = c / 3 ^ v % 3) (hs : ov_fl N M d = true) : ov_fl N M c = true :=
  (ov_fl_iff _ _ _).mpr fun j hj hm => ov_zs_mono h ((ov_fl_iff _ _ _).mp hs j hj hm)
theorem ov_zw_iff (N d c : Nat) : ov_zw N d c = true ↔ ∀ v, v < N → d / 3 ^ v % 3 = 0 ∨ d / 3 ^ v % 3 = c / 3 ^ v % 3 := by
  unfold ov_zw ov_wp
  rw [ov_al0]
  simp only [Bool.or_eq_true, decide_eq_true_eq]
theorem ov_pr_iff (N : Nat) (M : Nat → Bool) (c : Nat) : ov_pr N M c = true ↔ ov_fl N M c = true ∧ ∀ d, d < 3 ^ N → d ≠ c → ov_fl N M d = true → ov_zw N d c = true → False := by
  unfold ov_pr
  rw [Bool.and_eq_true, ov_al0]
  refine and_congr_right fun _ => forall_congr' fun d => forall_congr' fun _ => ?_
  by_cases e : d = c <;> cases ov_fl N M d <;> cases ov_zw N d c <;> simp [e]
theorem ov_px_iff (N : Nat) (M : Nat → Bool) (c : Nat) : ov_px N M c = true ↔ ov_fl N M c = true ∧ ∀ v, v < N → c / 3 ^ v % 3 ≠ 0 → ov_fl N M (c - c / 3 ^ v % 3 * 3 ^ v) = true → False := by
  unfold ov_px
  rw [Bool.and_eq_true, ov_al0]
  refine and_congr_right fun _ => forall_congr' fun v => forall_congr' fun _ => ?_
  by_cases e : c / 3 ^ v % 3 = 0 <;> cases ov_fl N M (c - c / 3 ^ v % 3 * 3 ^ v) <;> simp [e]
theorem ov_px_pr {N : Nat} (hN : N ≤ 5) (M : Nat → Bool) {c : Nat} (hc : c < 3 ^ N) : ov_px N M c = ov_pr N M c := by
  have h3 := ov_p3 hN
  rw [Bool.eq_iff_iff, ov_px_iff, ov_pr_iff]
  refine and_congr_right fun hf => ⟨fun h d hd hne hfd hw => ?_, fun h v hv hdg hfd => ?_⟩
  · have hw' := (ov_zw_iff _ _ _).mp hw
    have : ¬ ∀ v, v < N → d / 3 ^ v % 3 = c / 3 ^ v % 3 := fun g => hne (ov_ext N d c hd hc g)
    obtain ⟨v, hv⟩ := Classical.not_forall.mp this
    obtain ⟨hv, hv2⟩ := Classical.not_imp.mp hv
    have hz : d / 3 ^ v % 3 = 0 := (hw' v hv).resolve_right hv2
    refine h v hv (fun g => hv2 (by rw [hz, g])) (ov_fl_mono (d := d) (fun w hw => ?_) hfd)
    rw [ov_dgt c (by omega) v (by omega) w (by omega)]
    by_cases e : w = v
    · rw [e]; exact Or.inl hz
    · rw [if_neg e]; exact hw' w hw
  · have hle := ov_dle c v
    have hp : 0 < c / 3 ^ v % 3 * 3 ^ v := Nat.mul_pos (Nat.pos_of_ne_zero hdg) (Nat.pow_pos (by decide))
    refine h (c - c / 3 ^ v % 3 * 3 ^ v) (by omega) (by omega) hfd ((ov_zw_iff _ _ _).mpr fun w hw => ?_)
    rw [ov_dgt c (by omega) v (by omega) w (by omega)]
    by_cases e : w = v
    · rw [if_pos e]; exact Or.inl rfl
    · rw [if_neg e]; exact Or.inr rfl
end
section
theorem wb_tb (n : Nat) : (lN n).toBitVec = BitVec.ofNat 64 n := rfl
theorem wb_inj {a b : Int64} (h : a.toBitVec = b.toBitVec) : a = b := Int64.toBitVec_inj.mp h
theorem wb_c : ∀ k, k < 64 → ((nI k).toInt64 &&& 63) = lN k := by decide +kernel
theorem wb_sm : ∀ k, k < 64 → (BitVec.ofNat 64 k).smod 64 = BitVec.ofNat 64 k := by decide +kernel
theorem s_l : ∀ n, n < 32 → ((nI n &&& 31).toBitVec.smod 32).toNat = n := by decide +kernel
/-! one bit of a long -/
def ov_b (x : Int64) (j : Nat) : Bool := x.toBitVec.getLsbD j
theorem ov_bx {x y : Int64} (h : ∀ j, j < 64 → ov_b x j = ov_b y j) : x = y := wb_inj (BitVec.eq_of_getLsbD_eq (fun i hi => h i hi))
theorem ov_b_and (x y : Int64) (j : Nat) : ov_b (x &&& y) j = (ov_b x j && ov_b y j) := by
  unfold ov_b
  rw [Int64.toBitVec_and, BitVec.getLsbD_and]
theorem ov_b_or (x y : Int64) (j : Nat) : ov_b (x ||| y) j = (ov_b x j || ov_b y j) := by
  unfold ov_b
  rw [Int64.toBitVec_or, BitVec.getLsbD_or]
theorem ov_b_not (x : Int64) {j : Nat} (hj : j < 64) : ov_b (x ^^^ (-1)) j = !ov_b x j := by
  have ha : (-1 : Int64).toBitVec = BitVec.allOnes 64 := by decide
  unfold ov_b
  rw [Int64.toBitVec_xor, BitVec.getLsbD_xor, ha, BitVec.getLsbD_allOnes, decide_eq_true hj, Bool.xor_true]
theorem ov_b_0 (j : Nat) : ov_b 0 j = false := by
  unfold ov_b
  exact BitVec.getLsbD_zero
theorem ov_b_z (x : Int64) : x = 0 ↔ ∀ j, j < 64 → ov_b x j = false :=
  ⟨fun e j _ => by rw [e, ov_b_0], fun h => ov_bx fun j hj => by rw [h j hj, ov_b_0]⟩
theorem ov_b_shl : ∀ a, a < 32 → ∀ j, j < 64 → ov_b ((1 : Int64) <<< ((nI a).toInt64 &&& 63)) j = decide (j = a) := by decide +kernel
theorem ov_b_full : ∀ N, N < 6 → ∀ j, j < 64 → ov_b (((1 : Int64) <<< ((nI (2 ^ N)).toInt64 &&& 63)) - 1) j = decide (j < 2 ^ N) := by decide +kernel
theorem ov_b_con (S : Int64) {a : Nat} (ha : a < 64) : ((S >>> ((nI a).toInt64 &&& 63)) &&& 1) = 1 ↔ ov_b S a = true := by
  rw [wb_c a ha, ← Int64.toBitVec_inj, Int64.toBitVec_and, Int64.toBitVec_shiftRight, wb_tb]
  show (S.toBitVec.sshiftRight ((BitVec.ofNat 64 a).smod 64).toNat &&& 1#64) = 1#64 ↔ _
  rw [wb_sm a ha, BitVec.toNat_ofNat, Nat.mod_eq_of_lt (show a < 2 ^ 64 by omega)]
  unfold ov_b
  constructor
  · intro h
    have t := congrArg (fun x => x.getLsbD 0) h
    simp only [BitVec.getLsbD_and, BitVec.getLsbD_sshiftRight] at t
    simpa [ha] using t
  · intro h
    apply BitVec.eq_of_getLsbD_eq
    intro i hi
    rw [BitVec.getLsbD_and, BitVec.getLsbD_sshiftRight]
    cases i with
    | zero => simp [ha, h]
    | succ i => simp
theorem ov_sh1 : ∀ N, N < 6 → (1 : Int32) <<< (nI N &&& 31) = nI (2 ^ N) := by decide +kernel
theorem ov_t : vp_nar .boolean 1 = 1 := by decide
theorem ov_f : vp_nar .boolean 0 = 0 := by decide
theorem ov_nt : narrow .boolean (.int 1) = .int 1 := by decide
theorem ov_nf : narrow .boolean (.int 0) = .int 0 := by decide
theorem ov_nb (x : Bool) : narrow .boolean (.int (ov_bI x)) = .int (ov_bI x) := by
  cases x
  · exact ov_nf
  · exact ov_nt
theorem ov_vb (x : Bool) : vp_nar .boolean (ov_bI x) = ov_bI x := by
  cases x
  · exact ov_f
  · exact ov_t
theorem ov_bI0 (x : Bool) : ov_bI x = 0 ↔ x = false := by cases x <;> decide
theorem ov_br {A B : Prop} (x : Bool) (f : x = false → A) (g : x = true → B) : (ov_bI x = 0 → A) ∧ (¬ ov_bI x = 0 → B) := by
  cases x
  · exact ⟨fun _ => f rfl, fun h => absurd rfl h⟩
  · exact ⟨fun h => absurd h (by decide), fun _ => g rfl⟩
end
