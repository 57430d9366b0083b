/-! ints as nats, bits, loops: pure -/
theorem pz_lp_go {σ ρ : Type} {b : σ → Option (σ ⊕ ρ)} {st : Nat → σ} {n : Nat} {r : ρ} (hs : ∀ i, i < n → b (st i) = some (.inl (st (i + 1)))) (he : b (st n) = some (.inr r)) : ∀ (d k N : Nat), n = k + d → d < N → zq_lp b N (st k) = some r
  | _, _, 0, _, h => absurd h (Nat.not_lt_zero _)
  | 0, k, N + 1, h, _ => by
    have e : k = n := by omega
    subst e
    unfold zq_lp
    rw [he]
  | d + 1, k, N + 1, h, hN => by
    unfold zq_lp
    rw [hs k (by omega)]
    exact pz_lp_go hs he d (k + 1) N (by omega) (by omega)
/-- a loop whose states are known -/
theorem pz_lp {σ ρ : Type} {b : σ → Option (σ ⊕ ρ)} (st : Nat → σ) (n : Nat) {r : ρ} {s0 : σ} (h0 : s0 = st 0) (hs : ∀ i, i < n → b (st i) = some (.inl (st (i + 1)))) (he : b (st n) = some (.inr r)) (hN : n < 4294967296) : zq_lp b zq_N s0 = some r := by
  subst h0
  exact pz_lp_go hs he n 0 zq_N (by omega) hN
theorem pz_lpI_go {σ ρ : Type} {b : σ → Option (σ ⊕ ρ)} {I : Nat → σ → Prop} {n : Nat} {Q : ρ → Prop} (hs : ∀ i s, i < n → I i s → ∃ s', b s = some (.inl s') ∧ I (i + 1) s') (he : ∀ s, I n s → ∃ r, b s = some (.inr r) ∧ Q r) : ∀ (d k N : Nat) (s : σ), n = k + d → d < N → I k s → ∃ r, zq_lp b N s = some r ∧ Q r
  | _, _, 0, _, _, h, _ => absurd h (Nat.not_lt_zero _)
  | 0, k, N + 1, s, h, _, hI => by
    have e : k = n := by omega
    subst e
    obtain ⟨r, h1, h2⟩ := he s hI
    refine ⟨r, ?_, h2⟩
    unfold zq_lp
    rw [h1]
  | d + 1, k, N + 1, s, h, hN, hI => by
    obtain ⟨s', h1, h2⟩ := hs k s (by omega) hI
    unfold zq_lp
    rw [h1]
    exact pz_lpI_go hs he d (k + 1) N s' (by omega) (by omega) h2
/-- a counted loop, by what holds at its head -/
theorem pz_lpI {σ ρ : Type} {b : σ → Option (σ ⊕ ρ)} (I : Nat → σ → Prop) (n : Nat) (Q : ρ → Prop) {s0 : σ} (h0 : I 0 s0) (hs : ∀ i s, i < n → I i s → ∃ s', b s = some (.inl s') ∧ I (i + 1) s') (he : ∀ s, I n s → ∃ r, b s = some (.inr r) ∧ Q r) (hN : n < 4294967296) : ∃ r, zq_lp b zq_N s0 = some r ∧ Q r :=
  pz_lpI_go hs he n 0 zq_N s0 (by omega) hN h0
theorem pz_lpM_go {σ ρ : Type} {b : σ → Option (σ ⊕ ρ)} {I : σ → Prop} {μ : σ → Nat} {Q : ρ → Prop} (hs : ∀ s, I s → (∃ s', b s = some (.inl s') ∧ I s' ∧ μ s' < μ s) ∨ ∃ r, b s = some (.inr r) ∧ Q r) : ∀ (N : Nat) (s : σ), μ s < N → I s → ∃ r, zq_lp b N s = some r ∧ Q r
  | 0, _, h, _ => absurd h (Nat.not_lt_zero _)
  | N + 1, s, hN, hI => by
    unfold zq_lp
    rcases hs s hI with ⟨s', h1, h2, h3⟩ | ⟨r, h1, h2⟩
    · rw [h1]
      exact pz_lpM_go hs N s' (by omega) h2
    · rw [h1]
      exact ⟨r, rfl, h2⟩
/-- any loop, by a measure -/
theorem pz_lpM {σ ρ : Type} {b : σ → Option (σ ⊕ ρ)} (I : σ → Prop) (μ : σ → Nat) (Q : ρ → Prop) {s0 : σ} (h0 : I s0) (hN : μ s0 < 4294967296) (hs : ∀ s, I s → (∃ s', b s = some (.inl s') ∧ I s' ∧ μ s' < μ s) ∨ ∃ r, b s = some (.inr r) ∧ Q r) : ∃ r, zq_lp b zq_N s0 = some r ∧ Q r :=
  pz_lpM_go hs zq_N s0 hN h0
theorem pz_ext {x y : Int32} (h : x.toBitVec.toNat = y.toBitVec.toNat) : x = y := Int32.toBitVec_inj.mp (BitVec.eq_of_toNat_eq h)
theorem pz_and {a b : Nat} (ha : a < 4294967296) (hb : b < 4294967296) : nI a &&& nI b = nI (a &&& b) :=
  pz_ext (by rw [Int32.toBitVec_and, BitVec.toNat_and, pk_tn ha, pk_tn hb, pk_tn (Nat.lt_of_le_of_lt Nat.and_le_left ha)])
theorem pz_or {a b : Nat} (ha : a < 4294967296) (hb : b < 4294967296) : nI a ||| nI b = nI (a ||| b) :=
  pz_ext (by rw [Int32.toBitVec_or, BitVec.toNat_or, pk_tn ha, pk_tn hb, pk_tn (Nat.or_lt_two_pow (n := 32) ha hb)])
theorem pz_xor {a b : Nat} (ha : a < 4294967296) (hb : b < 4294967296) : nI a ^^^ nI b = nI (a ^^^ b) :=
  pz_ext (by rw [Int32.toBitVec_xor, BitVec.toNat_xor, pk_tn ha, pk_tn hb, pk_tn (Nat.xor_lt_two_pow (n := 32) ha hb)])
theorem pz_m1 : (-1 : Int32) = nI 4294967295 := by decide
theorem pz_not {b : Nat} (hb : b < 4294967296) : nI b ^^^ (-1) = nI (b ^^^ 4294967295) := by
  rw [pz_m1]
  exact pz_xor hb (by omega)
theorem pz_neg {r : Nat} (h : r < 4294967296) : -nI r = nI ((4294967296 - r) % 4294967296) :=
  pz_ext (by rw [Int32.toBitVec_neg, BitVec.toNat_neg, pk_tn h, pk_tn (Nat.mod_lt _ (by omega))])
theorem pz_sl : ∀ d, d < 32 → ((nI d &&& 31).toBitVec.smod 32).toNat = d := by decide
theorem pz_shl {d : Nat} (hd : d < 32) : (1 : Int32) <<< (nI d &&& 31) = nI (2 ^ d) := by
  have h := pk_shlN (n := 1) (nI d &&& 31) d (pz_sl d hd) (by rw [Nat.one_mul]; exact Nat.pow_lt_pow_right (by omega) hd)
  rw [Nat.one_mul] at h
  exact h
theorem pz_hasE {m d : Nat} (hm : m < 2147483648) (hd : d < 32) : ((nI m >>> (nI d &&& 31)) &&& 1) = nI (m / 2 ^ d % 2) := by
  rw [pk_shrN hm _ d (pz_sl d hd)]
  exact pk_andN (Nat.lt_of_le_of_lt (Nat.div_le_self _ _) (by omega)) 1 rfl
theorem pz_has {m d : Nat} (hm : m < 2147483648) (hd : d < 32) : (((nI m >>> (nI d &&& 31)) &&& 1) = 1) = (m.testBit d = true) := by
  rw [pz_hasE hm hd, show (1 : Int32) = nI 1 from rfl, nI_eq (by omega) (by omega), Nat.testBit_eq_decide_div_mod_eq, decide_eq_true_eq]
theorem pz_eqm1 {a : Nat} (h : a < 4294967295) : (nI a = -1) = False := by
  refine eq_false (fun e => ?_)
  have h2 := congrArg (fun x : Int32 => x.toBitVec.toNat) (e.trans pz_m1)
  simp only [pk_tn (Nat.lt_trans h (by omega : 4294967295 < 4294967296)), pk_tn (by omega : 4294967295 < 4294967296)] at h2
  omega
theorem pz_eq {a b : Nat} (ha : a < 4294967296) (hb : b < 4294967296) : (nI a = nI b) = (a = b) := by
  refine propext ⟨fun e => ?_, fun e => by rw [e]⟩
  have h2 := congrArg (fun x : Int32 => x.toBitVec.toNat) e
  simpa only [pk_tn ha, pk_tn hb] using h2
theorem pz_m1lt : (nI 4294967295 < 0) = True := by decide
/-- the first of n that is so, n if there is none -/
def pz_ff (p : Nat → Bool) : Nat → Nat → Nat
  | 0, i => i
  | k + 1, i => if p i = true then i else pz_ff p k (i + 1)
theorem pz_ff_le (p : Nat → Bool) : ∀ (k i : Nat), i ≤ pz_ff p k i ∧ pz_ff p k i ≤ i + k
  | 0, i => ⟨Nat.le_refl _, Nat.le_refl _⟩
  | k + 1, i => by
    unfold pz_ff
    by_cases h : p i = true
    · rw [if_pos h]; omega
    · rw [if_neg h]
      have := pz_ff_le p k (i + 1)
      omega
theorem pz_ff_no (p : Nat → Bool) : ∀ (k i j : Nat), i ≤ j → j < pz_ff p k i → p j = false
  | 0, i, j, h1, h2 => by unfold pz_ff at h2; omega
  | k + 1, i, j, h1, h2 => by
    unfold pz_ff at h2
    by_cases h : p i = true
    · rw [if_pos h] at h2; omega
    · rw [if_neg h] at h2
      by_cases e : i = j
      · subst e; simpa using h
      · exact pz_ff_no p k (i + 1) j (by omega) h2
theorem pz_ff_yes (p : Nat → Bool) : ∀ (k i : Nat), pz_ff p k i < i + k → p (pz_ff p k i) = true
  | 0, i, h => by unfold pz_ff at h; omega
  | k + 1, i, h => by
    unfold pz_ff at h ⊢
    by_cases hp : p i = true
    · rw [if_pos hp]; exact hp
    · rw [if_neg hp] at h ⊢
      exact pz_ff_yes p k (i + 1) (by omega)
/-- all below n -/
def pz_al (p : Nat → Bool) : Nat → Bool
  | 0 => true
  | n + 1 => p n && pz_al p n
theorem pz_al_e {p : Nat → Bool} : ∀ {n : Nat}, pz_al p n = true → ∀ i, i < n → p i = true
  | 0, _, i, hi => absurd hi (Nat.not_lt_zero _)
  | n + 1, h, i, hi => by
    unfold pz_al at h
    rw [Bool.and_eq_true] at h
    by_cases e : i = n
    · subst e; exact h.1
    · exact pz_al_e h.2 i (by omega)
/-- how many bits below d -/
def pz_rk (m : Nat) : Nat → Nat
  | 0 => 0
  | d + 1 => pz_rk m d + m / 2 ^ d % 2
theorem pz_rk_le (m : Nat) : ∀ d, pz_rk m d ≤ d
  | 0 => Nat.le_refl _
  | d + 1 => by
    unfold pz_rk
    have := pz_rk_le m d
    have := Nat.mod_lt (m / 2 ^ d) (show 2 > 0 by omega)
    omega
