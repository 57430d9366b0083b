/-! more of what the kernel tells of the tables -/
/-- a number, told before it is used (the kernel counts it once) -/
def pz_fc {α : Type} (x : Nat) (f : Nat → α) : α := match x with
  | 0 => f 0
  | k + 1 => f (k + 1)
theorem pz_fc_e {α : Type} (x : Nat) (f : Nat → α) : pz_fc x f = f x := by cases x <;> rfl
/-- every choice of c more of the first k diagonals that cross nothing is known -/
def pz_ok (g : Nat) : Nat → Nat → Nat → Bool
  | 0, m, c => !(Nat.beq c 0) || pz_mem g m
  | k + 1, m, c => bif Nat.beq c 0 then pz_mem g m else bif pz_lt (k + 1) c then true else pz_ok g k m c && (!(Nat.beq (pz_cr g k &&& m) 0) || pz_ok g k (m ||| 2 ^ k) (c - 1))
theorem pz_K5 : ∀ g, g < 6 → pz_ok g (pz_nd g) 0 (g + 1) = true := by decide +kernel
/-- flips lead from the fan to all -/
def pz_d0 (g m : Nat) : Nat := pz_rk (m &&& pz_fn g 0) (pz_nd g)
def pz_k6 (g : Nat) : Bool := pz_al (fun i => Nat.beq (pz_tt g i) (pz_fn g 0) || pz_lt (pz_ff (fun d => (pz_tt g i).testBit d && pz_lt (pz_d0 g (pz_tt g i)) (pz_d0 g (pz_fl g (pz_tt g i) d))) (pz_nd g) 0) (pz_nd g)) (pz_cn g)
theorem pz_K6 : ∀ g, g < 6 → pz_k6 g = true := by decide +kernel
/-- a mask whose bits are moved -/
def pz_mv (P : Nat → Nat) (m : Nat) : Nat → Nat
  | 0 => 0
  | d + 1 => pz_mv P m d ||| (bif m.testBit d then 2 ^ P d else 0)
def pz_tu (g m : Nat) : Nat := pz_mv (pz_tp g) m (pz_nd g)
def pz_mi (g m : Nat) : Nat := pz_mv (pz_mp g) m (pz_nd g)
def pz_tk (g m : Nat) : Nat → Nat
  | 0 => m
  | k + 1 => pz_tu g (pz_tk g m k)
/-- the least of the first k turns of both -/
def pz_co (g m : Nat) : Nat → Nat
  | 0 => m
  | k + 1 => min (min (pz_co g m k) (pz_tk g m k)) (pz_tk g (pz_mi g m) k)
def pz_ca (g : Nat) : Nat → Nat → Nat → Nat → Nat
  | 0, _, _, l => l
  | k + 1, a, b, l => pz_fc (min (min l a) b) fun l2 => pz_fc (pz_tu g a) fun a2 => pz_fc (pz_tu g b) fun b2 => pz_ca g k a2 b2 l2
theorem pz_ca_e (g m : Nat) : ∀ k j, pz_ca g k (pz_tk g m j) (pz_tk g (pz_mi g m) j) (pz_co g m j) = pz_co g m (j + k)
  | 0, _ => rfl
  | k + 1, j => by
    unfold pz_ca
    rw [pz_fc_e, pz_fc_e, pz_fc_e]
    have h := pz_ca_e g m k (j + 1)
    rw [show j + (k + 1) = j + 1 + k from by omega, ← h]
    rfl
/-- how many of the first i are their own codes -/
def pz_cc (g : Nat) : Nat → Nat
  | 0 => 0
  | i + 1 => pz_cc g i + (bif Nat.beq (pz_ca g (g + 4) (pz_tt g i) (pz_mi g (pz_tt g i)) (pz_tt g i)) (pz_tt g i) then 1 else 0)
def pz_cl : Nat → Nat
  | 0 => 1
  | 1 => 1
  | 2 => 3
  | 3 => 4
  | 4 => 12
  | _ => 27
def pz_di : Nat → Nat
  | 0 => 1
  | 1 => 2
  | 2 => 4
  | 3 => 5
  | 4 => 7
  | _ => 9
theorem pz_K7 : ∀ g, g < 6 → pz_cc g (pz_cn g) = pz_cl g := by decide +kernel
def pz_k8 (g : Nat) : Bool := pz_al (fun i => pz_mem g (pz_tu g (pz_tt g i)) && pz_mem g (pz_mi g (pz_tt g i))) (pz_cn g)
theorem pz_K8 : ∀ g, g < 6 → pz_k8 g = true := by decide +kernel
def pz_pk (g d : Nat) : Nat → Nat
  | 0 => d
  | k + 1 => pz_tp g (pz_pk g d k)
def pz_k9 (g : Nat) : Bool := pz_al (fun d => Nat.beq (pz_pk g d (g + 4)) d && Nat.beq (pz_mp g (pz_mp g d)) d && Nat.beq (pz_rn g (g + 3 - pz_dl g d) (g + 3 - pz_dg g d)) (pz_mp g d) &&
  pz_al (fun k => Nat.beq (pz_pk g d k) (pz_rn g ((pz_dl g d + k) % (g + 4)) ((pz_dg g d + k) % (g + 4)))) 10) (pz_nd g)
theorem pz_K9 : ∀ g, g < 6 → pz_k9 g = true := by decide +kernel
/-! what is within k flips of each, as a table of rows of bits -/
def pz_rw (B c i : Nat) : Nat := (B >>> (c * i)) % 2 ^ c
def pz_b0 (c : Nat) : Nat → Nat
  | 0 => 0
  | i + 1 => pz_b0 c i ||| 2 ^ (c * i + i)
def pz_bo (g B i : Nat) : Nat → Nat
  | 0 => pz_rw B (pz_cn g) i
  | w + 1 => pz_bo g B i w ||| pz_rw B (pz_cn g) (pz_ld g i w)
def pz_bt (g B : Nat) : Nat → Nat
  | 0 => 0
  | i + 1 => pz_bt g B i ||| pz_bo g B i (g + 1) <<< (pz_cn g * i)
def pz_bl (g : Nat) : Nat → Nat
  | 0 => pz_b0 (pz_cn g) (pz_cn g)
  | k + 1 => pz_fc (pz_bl g k) fun B => pz_bt g B (pz_cn g)
def pz_fu (g B : Nat) : Bool := pz_al (fun i => Nat.beq (pz_rw B (pz_cn g) i) (2 ^ pz_cn g - 1)) (pz_cn g)
def pz_k10 (g : Nat) : Bool := pz_fc (pz_bl g (pz_di g - 1)) fun B => !(pz_fu g B) && pz_fc (pz_bt g B (pz_cn g)) fun B2 => pz_fu g B2
theorem pz_K10 : ∀ g, g < 6 → pz_k10 g = true := by decide +kernel
