/-! what each call answers, and what it leaves: told once for both -/
def pz_sa (A : pz_A) (n' : pz_5) : pz_A := (n', pz_sn A.2.1, pz_sv A.1 A.2.1 A.2.2.1, A.2.2.2)
/-- low to high -/
def pz_bt2 (lo hi x : Int32) : Bool := decide (¬ x < lo ∧ ¬ hi < x)
noncomputable def pz_tn (n : pz_5) (w y : Nat) : Int32 := if y = 0 then nI (pz_w n w) else if y = 1 then nI (pz_co n.1 (pz_w n w) (n.1 + 4)) else if y = 2 then nI (pz_lk n.1 (pz_w n w) (n.1 + 4)) else if y = 3 then nI (pz_ea n.1 (pz_w n w) (n.1 + 4)) else if y = 4 then nI (pz_gd n.1 (pz_w n w) (n.1 + 4)) else if y = 5 then nI (pz_ec n.1 (pz_w n w)) else nI (pz_tt n.1 (pz_lf n.1 (pz_w n w)))
noncomputable def pz_dn (n : pz_5) (y : Nat) : Int32 := if y = 0 then pz_cd (pz_ds n.1 n.2.2.2.1 n.2.1 n.2.2.1) else if y = 1 then nI (pz_dv n.1 n.2.1 n.2.2.1) else if y = 2 then pz_cd (pz_ds n.1 (n.2.1 &&& n.2.2.1) n.2.1 n.2.2.1) else if y = 3 then nI (pz_ws n.1 n.2.2.2.1 n.2.1 n.2.2.1) else if y = 4 then nI (pz_nf n.1 n.2.2.2.1 n.2.1 n.2.2.1) else nI (pz_rk (n.2.1 &&& n.2.2.1) 27)
def pz_so (o : Option pz_5) : Nat := match o with
  | none => 0
  | some _ => 1
def pz_cnn (A : pz_A) (y : Nat) : Int32 := if y = 0 then nI (A.1.1 + 4) else if y = 1 then nI (pz_nd A.1.1) else if y = 2 then nI (pz_cn A.1.1) else if y = 3 then nI (pz_cl A.1.1) else if y = 4 then nI (pz_di A.1.1) else if y = 5 then A.1.2.2.2.2 else if y = 6 then nI (pz_rk A.1.2.2.2.1 27) else if y = 7 then nI A.1.2.2.2.1 else if y = 8 then nI (pz_so (A.2.2.2.1 0) + pz_so (A.2.2.2.1 1)) else nI A.2.1
def pz_hi (n : pz_5) (d : Nat) : Int32 := if n.2.1.testBit d = false then 1 else if n.2.2.2.1.testBit d = false then 0 else 2
noncomputable def pz_fb (n : pz_5) (d : Nat) : Int32 := if n.2.1.testBit d = true then nI (pz_dv n.1 (pz_fl n.1 n.2.1 d) n.2.2.1) else -1
abbrev pz_R1 : Type := (Int32 × pz_A) ⊕ Nat
def R_begin (A : pz_A) (x : Int32) : pz_R1 := if pz_bt2 4 9 x = true then .inl (nI (A.1.1 + 4), pz_sa A (x.toNatClampNeg - 4, pz_fn (x.toNatClampNeg - 4) 0, pz_fn (x.toNatClampNeg - 4) 0, 0, A.1.2.2.2.2)) else .inr 0
def R_flip (A : pz_A) (x y z : Int32) : pz_R1 := if pz_inb 2 x = true ∧ pz_no A.1.1 y z ≠ pz_X then (if (pz_w A.1 x.toNatClampNeg).testBit (pz_no A.1.1 y z) = true ∧ (x.toNatClampNeg = 0 → A.1.2.2.2.1.testBit (pz_no A.1.1 y z) = false) then .inl (nI (pz_oth A.1.1 (pz_w A.1 x.toNatClampNeg) (pz_no A.1.1 y z)), pz_sa A (pz_mf A.1 x.toNatClampNeg (pz_no A.1.1 y z))) else .inr 2) else .inr 1
def R_fan (A : pz_A) (x c : Int32) : pz_R1 := if pz_inb 2 x = true ∧ pz_inb (A.1.1 + 4) c = true then .inl (nI (pz_de A.1.1 (pz_w A.1 x.toNatClampNeg) c.toNatClampNeg), pz_sa A (pz_pn A.1 x.toNatClampNeg (pz_fn A.1.1 c.toNatClampNeg))) else .inr 1
def pz_tr2 (n : pz_5) (w k : Nat) : pz_5 := if w = 0 then (n.1, pz_tk n.1 n.2.1 k, n.2.2.1, pz_tk n.1 n.2.2.2.1 k, n.2.2.2.2) else (n.1, n.2.1, pz_tk n.1 n.2.2.1 k, n.2.2.2)
def R_turn (A : pz_A) (x k : Int32) : pz_R1 := if pz_inb 2 x = true then (if pz_inb 9 k = true then .inl (nI (pz_tk A.1.1 (pz_w A.1 x.toNatClampNeg) k.toNatClampNeg), pz_sa A (pz_tr2 A.1 x.toNatClampNeg k.toNatClampNeg)) else .inr 0) else .inr 1
def pz_mr2 (n : pz_5) (w : Nat) : pz_5 := if w = 0 then (n.1, pz_mi n.1 n.2.1, n.2.2.1, pz_mi n.1 n.2.2.2.1, n.2.2.2.2) else (n.1, n.2.1, pz_mi n.1 n.2.2.1, n.2.2.2)
def R_mirror (A : pz_A) (x : Int32) : pz_R1 := if pz_inb 2 x = true then .inl (nI (pz_mi A.1.1 (pz_w A.1 x.toNatClampNeg)), pz_sa A (pz_mr2 A.1 x.toNatClampNeg)) else .inr 1
def R_exchange (A : pz_A) : pz_R1 := .inl (nI A.1.2.2.1, pz_sa A (A.1.1, A.1.2.2.1, A.1.2.1, 0, A.1.2.2.2.2))
def pz_lo2 (K d : Nat) (z : Int32) : Nat := if z = 0 then K &&& (2 ^ d ^^^ 4294967295) else K ||| 2 ^ d
def R_lock (A : pz_A) (x y z : Int32) : pz_R1 := if pz_no A.1.1 x y = pz_X then .inr 1 else if A.1.2.1.testBit (pz_no A.1.1 x y) = false then .inr 2 else .inl (nI (pz_rk (pz_lo2 A.1.2.2.2.1 (pz_no A.1.1 x y) z) 27), pz_sa A (A.1.1, A.1.2.1, A.1.2.2.1, pz_lo2 A.1.2.2.2.1 (pz_no A.1.1 x y) z, A.1.2.2.2.2))
noncomputable def pz_wa (n : pz_5) : Nat → Nat × pz_5
  | 0 => (0, n)
  | k + 1 => if pz_nf (pz_wa n k).2.1 (pz_wa n k).2.2.2.2.1 (pz_wa n k).2.2.1 (pz_wa n k).2.2.2.1 = pz_X then pz_wa n k else ((pz_wa n k).1 + 1, pz_mf (pz_wa n k).2 0 (pz_nf (pz_wa n k).2.1 (pz_wa n k).2.2.2.2.1 (pz_wa n k).2.2.1 (pz_wa n k).2.2.2.1))
noncomputable def R_walk (A : pz_A) (x : Int32) : pz_R1 := if pz_bt2 1 20 x = true then (if pz_ds A.1.1 A.1.2.2.2.1 A.1.2.1 A.1.2.2.1 = none then .inr 2 else .inl (nI (pz_wa A.1 x.toNatClampNeg).1, pz_sa A (pz_wa A.1 x.toNatClampNeg).2)) else .inr 0
def pz_tb (A : pz_A) (tl : Nat) (tx : Nat → Nat) : pz_A := (A.1, A.2.1, A.2.2.1, A.2.2.2.1, tl, tx)
def R_append (A : pz_A) (x : Int32) : pz_R1 := if pz_bt2 33 126 x = true then (if A.2.2.2.2.1 = 60 then .inr 2 else .inl (nI (A.2.2.2.2.1 + 1), pz_tb A (A.2.2.2.2.1 + 1) (pz_up1 A.2.2.2.2.2 A.2.2.2.2.1 x.toNatClampNeg))) else .inr 0
def R_clear (A : pz_A) : pz_R1 := .inl (nI A.2.2.2.2.1, pz_tb A 0 A.2.2.2.2.2)
/-- whether a character can stand at a place -/
def pz_fit (g : Nat) (tx : Nat → Nat) (k : Nat) : Bool := decide (k < 3 * (g + 1) - 1) && (if k % 3 = 0 then pz_inb (g + 2) (nI (tx k) - 48) else if k % 3 = 1 then decide (pz_no g (nI (tx (k - 1)) - 48) (nI (tx k) - 48) ≠ pz_X) else decide (tx k = 44))
def pz_fw2 (g tl : Nat) (tx : Nat → Nat) : Nat := pz_ff (fun k => !(pz_fit g tx k)) tl 0
def R_firstError (A : pz_A) : pz_R1 := .inl (nI (pz_fw2 A.1.1 A.2.2.2.2.1 A.2.2.2.2.2), A)
/-- the diagonal told at a part -/
def pz_ta (g : Nat) (tx : Nat → Nat) (p : Nat) : Nat := pz_no g (nI (tx (3 * p)) - 48) (nI (tx (3 * p + 1)) - 48)
/-- the mask of the first k parts, if they are apart and cross nothing -/
def pz_mk (g : Nat) (tx : Nat → Nat) : Nat → Option Nat
  | 0 => some 0
  | k + 1 => match pz_mk g tx k with
    | none => none
    | some m => if m.testBit (pz_ta g tx k) = true ∨ pz_cr g (pz_ta g tx k) &&& m ≠ 0 then none else some (m ||| 2 ^ pz_ta g tx k)
def R_read (A : pz_A) (x : Int32) : pz_R1 := if pz_inb 2 x = true then (if A.2.2.2.2.1 = 3 * (A.1.1 + 1) - 1 ∧ pz_fw2 A.1.1 A.2.2.2.2.1 A.2.2.2.2.2 = A.2.2.2.2.1 then (match pz_mk A.1.1 A.2.2.2.2.2 (A.1.1 + 1) with
  | none => .inr 2
  | some m => .inl (nI m, pz_tb (pz_sa A (pz_pn A.1 x.toNatClampNeg m)) 0 A.2.2.2.2.2)) else .inr 0) else .inr 1
def pz_us (sp : Nat → Option pz_5) (s : Nat) (n : pz_5) : Nat → Option pz_5 := fun i => if i = s then some n else sp i
def R_take (A : pz_A) (x : Int32) : pz_R1 := if pz_inb 2 x = true then .inl (nI (A.1.1 + 4), (A.1, A.2.1, A.2.2.1, pz_us A.2.2.2.1 x.toNatClampNeg A.1, A.2.2.2.2)) else .inr 1
def R_restore (A : pz_A) (x : Int32) : pz_R1 := if pz_inb 2 x = true then (match A.2.2.2.1 x.toNatClampNeg with
  | none => .inr 2
  | some m => .inl (nI (m.1 + 4), pz_sa A (m.1, m.2.1, m.2.2.1, m.2.2.2.1, A.1.2.2.2.2))) else .inr 1
def R_undo (A : pz_A) : pz_R1 := if A.2.1 = 0 then .inr 2 else .inl (nI (A.2.1 - 1), (A.2.2.1 (A.2.1 - 1), A.2.1 - 1, A.2.2))
def R_number (A : pz_A) (x y : Int32) : pz_R1 := if pz_no A.1.1 x y = pz_X then .inr 1 else .inl (nI (pz_no A.1.1 x y), A)
noncomputable def R_triangulation (A : pz_A) (x y : Int32) : pz_R1 := if pz_inb 2 x = true then (if pz_inb 7 y = true then .inl (pz_tn A.1 x.toNatClampNeg y.toNatClampNeg, A) else .inr 0) else .inr 1
def R_degree (A : pz_A) (x c : Int32) : pz_R1 := if pz_inb 2 x = true ∧ pz_inb (A.1.1 + 4) c = true then .inl (nI (pz_de A.1.1 (pz_w A.1 x.toNatClampNeg) c.toNatClampNeg), A) else .inr 1
def R_other (A : pz_A) (x y z : Int32) : pz_R1 := if pz_inb 2 x = true ∧ pz_no A.1.1 y z ≠ pz_X then .inl (nI (pz_ot A.1.1 (pz_w A.1 x.toNatClampNeg) (pz_no A.1.1 y z)), A) else .inr 1
def R_whyNot (A : pz_A) (x y : Int32) : pz_R1 := if pz_no A.1.1 x y = pz_X then .inr 1 else .inl (pz_hi A.1 (pz_no A.1.1 x y), A)
noncomputable def R_distance (A : pz_A) (y : Int32) : pz_R1 := if pz_inb 6 y = true then .inl (pz_dn A.1 y.toNatClampNeg, A) else .inr 0
noncomputable def R_ifFlipped (A : pz_A) (x y : Int32) : pz_R1 := if pz_no A.1.1 x y = pz_X then .inr 1 else .inl (pz_fb A.1 (pz_no A.1.1 x y), A)
def R_count (A : pz_A) (y : Int32) : pz_R1 := if pz_inb 10 y = true then .inl (pz_cnn A y.toNatClampNeg, A) else .inr 0
theorem pz_no_or {g : Nat} (hg : g < 6) (x y : Int32) : pz_no g x y = pz_X ∨ pz_no g x y < pz_nd g := by
  unfold pz_no
  by_cases h : pz_inb (g + 4) x = true ∧ pz_inb (g + 4) y = true
  · rw [if_pos h]
    obtain ⟨a, ha, rfl⟩ := pz_inb_of (by omega) h.1
    obtain ⟨b, hb, rfl⟩ := pz_inb_of (by omega) h.2
    rw [nI_clamp (by omega), nI_clamp (by omega)]
    rcases pz_numc hg ha hb with q | q
    · exact Or.inl q
    · exact Or.inr q.2.1
  · rw [if_neg h]; exact Or.inl rfl
theorem pz_no_m1 {g : Nat} (x y : Int32) : (nI (pz_no g x y) = -1) = (pz_no g x y = pz_X) := by
  have h : pz_no g x y < 4294967296 := by
    unfold pz_no
    split
    · exact pz_num_lt _ _ _
    · show 4294967295 < 4294967296; omega
  rw [pz_m1]
  exact pz_eq h (by omega)
