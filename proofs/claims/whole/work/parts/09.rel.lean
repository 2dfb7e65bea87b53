/-! the relation, and what it says of both sets of models -/
def i_Rel (_k : Nat) (u : SX) (v : SY) : Prop := ∃ (N sz : Nat) (fal : Nat → Int64) (inb base md fo : Nat → Int32) (b : Nat → Nat), N ≤ 5 ∧ sz ≤ 12 ∧ u = (nI N, nI (3 ^ N), nI (2 ^ N), nI sz, fal, inb) ∧ v = (nI N, nI (3 ^ N), nI sz, base, md, fo) ∧ ov_Fal N fal ∧ ov_Bas N sz base b ∧ (∀ i j, i < sz → j < sz → b i = b j → i = j) ∧ (∀ c, c < 3 ^ N → (inb c = 0 ↔ ∀ i, i < sz → b i ≠ c))
theorem ov_mm {N sz : Nat} {inb base : Nat → Int32} {b : Nat → Nat} (hB : ov_Bas N sz base b) (hI : ∀ c, c < 3 ^ N → (inb c = 0 ↔ ∀ i, i < sz → b i ≠ c)) (lx ly : Int32) (hl : ∀ i, i < sz → (nI (b i) = lx ↔ nI i = ly)) (j : Nat) : ov_mx N inb lx (3 ^ N) j = ov_my N b ly sz j := by
  unfold ov_mx ov_my
  rw [Bool.eq_iff_iff, ov_al0, ov_al0]
  constructor
  · intro h i hi
    have hb := (hB i hi).1
    have g := h (b i) hb
    unfold ov_mq at g
    unfold ov_yq
    have hn : ¬ inb (b i) = 0 := fun z => (hI (b i) hb).mp z i hi rfl
    rw [decide_eq_false hn, Bool.false_or, decide_eq_decide.mpr (hl i hi)] at g
    exact g
  · intro h c hc
    unfold ov_mq
    by_cases z : inb c = 0
    · rw [decide_eq_true z, Bool.true_or]
    · have : ∃ i, i < sz ∧ b i = c := by
        apply Classical.byContradiction
        intro n
        exact z ((hI c hc).mpr fun i hi e => n ⟨i, hi, e⟩)
      obtain ⟨i, hi, e⟩ := this
      subst e
      have g := h i hi
      unfold ov_yq at g
      rw [decide_eq_false z, Bool.false_or, decide_eq_decide.mpr (hl i hi)]
      exact g
theorem ov_m1 {n : Nat} (h : n < 2 ^ 31) : ¬ nI n = -1 := fun e => nI_pos h (by rw [e]; decide)
theorem ov_mm1 {N sz : Nat} (hN : N ≤ 5) (hz : sz ≤ 12) {inb base : Nat → Int32} {b : Nat → Nat} (hB : ov_Bas N sz base b) (hI : ∀ c, c < 3 ^ N → (inb c = 0 ↔ ∀ i, i < sz → b i ≠ c)) (j : Nat) : ov_mx N inb (-1) (3 ^ N) j = ov_my N b (-1) sz j := by
  have h3 := ov_p3 hN
  exact ov_mm hB hI (-1) (-1) (fun i hi => ⟨fun e => absurd e (ov_m1 (by have := (hB i hi).1; omega)), fun e => absurd e (ov_m1 (by omega))⟩) j
theorem ov_fl_cg {N : Nat} {M M' : Nat → Bool} (h : ∀ j, M j = M' j) (c : Nat) : ov_fl N M c = ov_fl N M' c := by rw [show M = M' from funext h]
theorem ov_red {N sz : Nat} (hN : N ≤ 5) (hz : sz ≤ 12) {inb base : Nat → Int32} {b : Nat → Nat} (hB : ov_Bas N sz base b) (hJ : ∀ i j, i < sz → j < sz → b i = b j → i = j) (hI : ∀ c, c < 3 ^ N → (inb c = 0 ↔ ∀ i, i < sz → b i ≠ c)) : ov_cn (ov_ry N b sz) sz 0 = ov_cn (ov_rx N inb) (3 ^ N) 0 := by
  have h3 := ov_p3 hN
  have e1 : ov_cn (ov_ry N b sz) sz 0 = ov_cn (fun i => (fun c => ov_fl N (ov_mx N inb (nI c) (3 ^ N)) c) (b i)) sz 0 := by
    apply ov_cn_cg
    intro i _ hi
    have hi' : i < sz := by omega
    show ov_fl N (ov_my N b (nI i) sz) (b i) = ov_fl N (ov_mx N inb (nI (b i)) (3 ^ N)) (b i)
    refine (ov_fl_cg (fun j => ov_mm hB hI (nI (b i)) (nI i) (fun k hk => ?_) j) (b i)).symm
    have hk1 := (hB k hk).1
    have hi1 := (hB i hi').1
    rw [nI_eq (by omega) (by omega), nI_eq (by omega) (by omega)]
    exact ⟨fun e => hJ k i hk hi' e, fun e => by rw [e]⟩
  rw [e1, ov_cn_sw (fun c => ov_fl N (ov_mx N inb (nI c) (3 ^ N)) c) b (3 ^ N) sz (fun i hi => (hB i hi).1) hJ]
  apply ov_cn_cg
  intro c _ hc
  have hc' : c < 3 ^ N := by omega
  show (ov_an (fun i => decide (b i = c)) sz 0 && _) = (!decide (inb c = 0) && _)
  congr 1
  rw [Bool.eq_iff_iff, ov_an0]
  simp only [decide_eq_true_eq, Bool.not_eq_true', decide_eq_false_iff_not]
  rw [hI c hc']
  constructor
  · intro ⟨i, hi, e⟩ n
    exact n i hi e
  · intro n
    apply Classical.byContradiction
    intro m
    exact n fun i hi e => m ⟨i, hi, e⟩
theorem ov_xadd (post : Int32 → SX → Prop) (N : Nat) (hN : N ≤ 5) (sz : Nat) (hz : sz ≤ 12) (fal : Nat → Int64) (inb : Nat → Int32) (x : Int32) (h0 : (x < 0 ∨ nI (3 ^ N) ≤ x) → post (-1) (nI N, nI (3 ^ N), nI (2 ^ N), nI sz, fal, inb)) (h1 : ∀ c, c < 3 ^ N → x = nI c → inb c ≠ 0 → post 0 (nI N, nI (3 ^ N), nI (2 ^ N), nI sz, fal, inb)) (h2 : ∀ c, c < 3 ^ N → x = nI c → inb c = 0 → sz = 12 → post (-3) (nI N, nI (3 ^ N), nI (2 ^ N), nI sz, fal, inb)) (h3 : ∀ c, c < 3 ^ N → x = nI c → inb c = 0 → sz < 12 → post 1 (nI N, nI (3 ^ N), nI (2 ^ N), nI (sz + 1), fal, upd inb c 1)) : wpX_add post (nI N, nI (3 ^ N), nI (2 ^ N), nI sz, fal, inb) x := by
  have hp := ov_p3 hN
  unfold wpX_add
  dsimp only
  refine ov_xis _ N hN (nI sz) fal inb x (fun g => br_t rfl (h0 g)) (fun c hc e => br_f (by decide) ?_)
  have ec : x.toNatClampNeg = c := by rw [e]; exact nI_clamp (by omega)
  refine ⟨by rw [e]; exact pk_in c 243 (by omega), ?_⟩
  rw [ec]
  exact br_c (fun z => pk_lt sz 12 (fun q => ⟨by rw [e]; exact pk_in c 243 (by omega), nm_r (e' := upd inb c 1) (by rw [ov_t]) (nm_r (nI_1 sz) (h3 c hc e z q))⟩) (fun q => h2 c hc e z (by omega))) (fun z => h1 c hc e z)
theorem ov_xret (post : Int32 → SX → Prop) (N : Nat) (hN : N ≤ 5) (sz : Nat) (hz : sz ≤ 12) (fal : Nat → Int64) (inb : Nat → Int32) (x : Int32) (h0 : (x < 0 ∨ nI (3 ^ N) ≤ x) → post (-1) (nI N, nI (3 ^ N), nI (2 ^ N), nI sz, fal, inb)) (h1 : ∀ c, c < 3 ^ N → x = nI c → inb c = 0 → post 0 (nI N, nI (3 ^ N), nI (2 ^ N), nI sz, fal, inb)) (h2 : ∀ c, c < 3 ^ N → x = nI c → inb c ≠ 0 → post 1 (nI N, nI (3 ^ N), nI (2 ^ N), nI sz - 1, fal, upd inb c 0)) : wpX_retract post (nI N, nI (3 ^ N), nI (2 ^ N), nI sz, fal, inb) x := by
  have hp := ov_p3 hN
  unfold wpX_retract
  dsimp only
  refine ov_xis _ N hN (nI sz) fal inb x (fun g => br_t rfl (h0 g)) (fun c hc e => br_f (by decide) ?_)
  have ec : x.toNatClampNeg = c := by rw [e]; exact nI_clamp (by omega)
  refine ⟨by rw [e]; exact pk_in c 243 (by omega), ?_⟩
  rw [ec]
  exact br_c (fun z => h1 c hc e z) (fun z => ⟨by rw [e]; exact pk_in c 243 (by omega), nm_r (e' := upd inb c 0) (by rw [ov_f]) (nm_e (h2 c hc e z))⟩)
