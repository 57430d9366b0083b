/-! the class' parts -/
def pz_Lp (h : zq_H) (L : List Nat) : Prop := ∀ k, k < L.length → pz_i h 103 k = nI (L.getD k 0) ∧ L.getD k 0 < 512
section PZCQ
variable {h : zq_H} {b tl sn : Nat} {tx : Nat → Nat} {n : pz_5} {sv : Nat → pz_5} {sp : Nat → Option pz_5}
theorem wq_a (C : pz_Ca h) {k : Nat} (hk : k < 7) : zq_ai h 103 (nI k) = some (pz_i h 103 k) := pz_ai (L := 7) (by have := C.1; omega) rfl hk (by omega)
theorem wq_s (C : pz_Ca h) {k : Nat} (hk : k < 7) (v : Int32) : zq_si h 103 (nI k) v = some (pz_S h 103 k v) := pz_si (L := 7) (by have := C.1; omega) rfl hk (by omega) v
theorem s_cutOnePart (C : pz_Ca h) {L : List Nat} {x y : Nat} (hxy : x < y) (hy : y < 9) (hL : pz_Lp h L) (hlen : L.length ≤ 6) (hc : (pz_c1 x y L).length = L.length + 1) : ∃ h', f_X5_cutOnePart h 0 (nI L.length) (nI x) (nI y) = some h' ∧ pz_ag (fun a => a ≠ 103) h h' ∧ pz_Lp h' (pz_c1 x y L) := by
  obtain ⟨i, i1, i2, i3, i4⟩ := pz_c1_e hc
  obtain ⟨v1, v2⟩ := hL i i1
  have p27 : ∀ {c : Nat}, c ≤ 9 → 2 ^ c ≤ 512 := fun hc => Nat.pow_le_pow_right (n := 2) (by omega) hc
  have px := p27 (show x ≤ 9 by omega)
  have py := p27 (show y ≤ 9 by omega)
  have py1 := p27 (show y + 1 ≤ 9 by omega)
  have hmono : 2 ^ x ≤ 2 ^ (y + 1) := Nat.pow_le_pow_right (by omega) (by omega)
  have hor : 2 ^ x ||| 2 ^ y < 1024 := Nat.or_lt_two_pow (n := 10) (by omega) (by omega)
  have hside : 2 ^ (y + 1) - 2 ^ x < 4294967296 := Nat.lt_of_le_of_lt (Nat.sub_le _ _) (by omega)
  have hnot : 2 ^ (y + 1) - 2 ^ x ^^^ 4294967295 < 4294967296 := Nat.xor_lt_two_pow (n := 32) (by omega) (by omega)
  have hor2 : (2 ^ (y + 1) - 2 ^ x ^^^ 4294967295) ||| (2 ^ x ||| 2 ^ y) < 4294967296 := Nat.or_lt_two_pow (n := 32) hnot (by omega)
  generalize hk1 : pz_S h 103 L.length (nI (pz_sp2 (L.getD i 0) x y)) = k1
  have C1 : pz_Ca k1 := by rw [← hk1]; exact C
  refine ⟨pz_S k1 103 i (nI (pz_sp1 (L.getD i 0) x y)), ?_, ?_, fun k hk => ?_⟩
  · unfold f_X5_cutOnePart
    have sh : ∀ {c : Nat}, c < 32 → (1 : Int32) <<< (nI c &&& 31) = nI (2 ^ c) := fun hc => pz_shl hc
    rw [nI_1, sh (show x < 32 by omega), sh (show y < 32 by omega), sh (show y + 1 < 32 by omega), pz_or (by omega) (by omega), pk_sub hmono]
    simp only [zq_let]
    have hE : ∀ j, j < L.length → (nI (L.getD j 0) &&& nI (2 ^ x ||| 2 ^ y) = nI (2 ^ x ||| 2 ^ y)) = ((L.getD j 0).testBit x = true ∧ (L.getD j 0).testBit y = true) := fun j hj => by
      have := (hL j hj).2
      rw [pz_and (by omega) (by omega), pz_eq (Nat.lt_of_le_of_lt Nat.and_le_left (by omega)) (by omega)]
      exact propext (pz_ends _ x y)
    refine pz_lpB (fun j => (nI j, h)) i (r := Sum.inr (pz_S k1 103 i (nI (pz_sp1 (L.getD i 0) x y)))) rfl rfl ?_ ?_ (by omega)
    · intro j hj
      simp only
      rw [if_neg (nI_ge (show j < L.length by omega) (by omega)), cq_10 C, Option.bind_some, wq_a C (by omega), (hL j (by omega)).1, Option.bind_some, if_neg (by rw [hE j (by omega)]; exact i2 j hj), nI_1]
    · simp only
      have hs2 : nI (L.getD i 0) &&& nI (2 ^ (y + 1) - 2 ^ x) = nI (pz_sp2 (L.getD i 0) x y) := by rw [pz_and (by omega) (by omega)]; rfl
      have hs1 : nI (L.getD i 0) &&& ((nI (2 ^ (y + 1) - 2 ^ x) ^^^ (-1)) ||| nI (2 ^ x ||| 2 ^ y)) = nI (pz_sp1 (L.getD i 0) x y) := by
        rw [pz_not hside, pz_or hnot (by omega), pz_and (by omega) hor2]; rfl
      have hi1 : pz_i k1 103 i = nI (L.getD i 0) := by rw [← hk1, pz_S_i, if_neg (by omega)]; exact v1
      rw [if_neg (nI_ge i1 (by omega)), cq_10 C, Option.bind_some, wq_a C (by omega), v1, Option.bind_some, if_pos (by rw [hE i i1]; exact i3), Option.bind_some, Option.bind_some, wq_a C (by omega), v1, Option.bind_some, hs2, wq_s C (by omega), Option.bind_some, hk1, cq_10 C1, Option.bind_some, Option.bind_some, wq_a C1 (by omega), hi1, Option.bind_some, hs1, wq_s C1 (by omega), Option.bind_some]
  · exact (by rw [← hk1]; exact pz_ag.S (by simp) : pz_ag (fun a => a ≠ 103) h k1).tr (pz_ag.S (by simp))
  · rw [hc] at hk
    rw [i4 k (by omega), pz_S_i]
    have b1 : pz_sp1 (L.getD i 0) x y < 512 := Nat.lt_of_le_of_lt Nat.and_le_left v2
    have b2 : pz_sp2 (L.getD i 0) x y < 512 := Nat.lt_of_le_of_lt Nat.and_le_left v2
    by_cases r1 : k = i
    · rw [if_pos r1, if_pos ⟨rfl, r1⟩]; exact ⟨rfl, b1⟩
    · rw [if_neg r1, if_neg (fun q => r1 q.2), ← hk1, pz_S_i]
      by_cases r2 : k = L.length
      · rw [if_pos r2, if_pos ⟨rfl, r2⟩]; exact ⟨rfl, b2⟩
      · rw [if_neg r2, if_neg (fun q => r2 q.2)]; exact hL k (by omega)
theorem pz_CB.a103 {h' : zq_H} (B : pz_CB h b tl tx) (l : pz_ag (fun a => a ≠ 103) h h') : pz_CB h' b tl tx :=
  ⟨B.1.r l.1 (fun a j ha => l.r (by omega) j), B.2.1.ag l (fun a h1 h2 => by omega), B.2.2.1.ag l (fun a h1 h2 => by omega), B.2.2.2.ag l (by omega)⟩
theorem s_cutIntoParts (B : pz_CB h b tl tx) (S : pz_CS h b n sn sv sp) {C : Nat} (hC : pz_nc n.1 C) : ∃ h', f_X5_cutIntoParts h 0 (nI C) = some (nI (pz_cu n.1 C (pz_nd n.1)).length, h') ∧ pz_ag (fun a => a ≠ 103) h h' ∧ pz_Lp h' (pz_cu n.1 C (pz_nd n.1)) := by
  have hg := S.2.1.T.1
  have hnd := pz_nd_le hg
  have hC27 := pz_p27 hg hC.1
  obtain ⟨P, p0⟩ := B.p S.2.1
  have hp : 2 ^ (n.1 + 4) ≤ 512 := Nat.pow_le_pow_right (n := 2) (by omega) (show n.1 + 4 ≤ 9 by omega)
  have hp1 := Nat.two_pow_pos (n.1 + 4)
  unfold f_X5_cutIntoParts
  rw [cq_1 B.1, Option.bind_some, aq_0 B.1 S.1, Option.bind_some, p0, Option.bind_some, cq_10 B.1, Option.bind_some, pq_0 P, Option.bind_some, pz_shl (show n.1 + 4 < 32 by omega), show (1 : Int32) = nI 1 from rfl, pk_sub (by omega), show (0 : Int32) = nI 0 from rfl, wq_s B.1 (by omega), Option.bind_some]
  have l0 : pz_ag (fun a => a ≠ 103) h (pz_S h 103 0 (nI (2 ^ (n.1 + 4) - 1))) := pz_ag.S (by simp)
  refine pz_pair (pz_lpIB (fun d s => s.1 = nI (pz_cu n.1 C d).length ∧ s.2.1 = nI d ∧ pz_ag (fun a => a ≠ 103) h s.2.2 ∧ pz_Lp s.2.2 (pz_cu n.1 C d)) (pz_nd n.1) (fun r => r.1 = nI (pz_cu n.1 C (pz_nd n.1)).length ∧ pz_ag (fun a => a ≠ 103) h r.2 ∧ pz_Lp r.2 (pz_cu n.1 C (pz_nd n.1))) ?_ ⟨rfl, rfl, l0, fun k hk => ?_⟩ ?_ ?_ (by omega))
  · rintro ⟨r1, r2⟩ ⟨q1, q2, q3⟩
    simp only at q1
    subst q1
    exact ⟨_, rfl, _, rfl, q2, q3⟩
  · have hk : k < 1 := hk
    have : k = 0 := by omega
    subst this
    rw [pz_S_i, if_pos ⟨rfl, rfl⟩]
    exact ⟨rfl, by show 2 ^ (n.1 + 4) - 1 < 512; omega⟩
  · rintro d ⟨s1, s2, k⟩ hd ⟨e1, e2, e3, e4⟩
    simp only at e1 e2 e3 e4
    subst e1; subst e2
    have Bk := B.a103 e3
    obtain ⟨Pk, -⟩ := Bk.p S.2.1
    have Ck := Bk.1
    have hdl := pz_dia hg hd
    rw [pq_1 Pk, Option.bind_some, if_neg (nI_ge hd (by omega)), s_isIn (by omega) (by omega), Option.bind_some]
    have hs := pz_cu_s n.1 C d
    cases hb : C.testBit d with
    | false =>
      rw [hb, if_neg (by simp)] at hs
      rw [if_pos (show false = false from rfl)]
      simp only [zq_let, nI_add]
      exact ⟨_, rfl, by rw [hs], rfl, e3, by rw [hs]; exact e4⟩
    | true =>
      rw [hb, if_pos rfl] at hs
      have len1 := pz_cu_len hg hC (show d ≤ pz_nd n.1 by omega)
      have len2 := pz_cu_len hg hC (show d + 1 ≤ pz_nd n.1 by omega)
      have len3 := pz_cu_len hg hC (Nat.le_refl (pz_nd n.1))
      have hr1 : pz_rk C (d + 1) = _ := pz_rk_s C d
      rw [hb, if_pos rfl] at hr1
      have hr2 := pz_rk_mon C (show d + 1 ≤ pz_nd n.1 by omega)
      have h7 := (pz_dsc hg hC).1.1
      have hcl : (pz_c1 (pz_dl n.1 d) (pz_dg n.1 d) (pz_cu n.1 C d)).length = (pz_cu n.1 C d).length + 1 := by rw [← hs]; omega
      have h103 : zq_an k 103 = some (nI 7) := pz_an (c := 10) (by have := Ck.1; omega) rfl (by omega) (by omega)
      obtain ⟨k2, f1, f2, f3⟩ := s_cutOnePart Ck (L := pz_cu n.1 C d) (x := pz_dl n.1 d) (y := pz_dg n.1 d) (by omega) (by omega) e4 (by omega) hcl
      rw [if_neg (show ¬ (true = false) by simp), cq_10 Ck, Option.bind_some, h103, Option.bind_some, if_neg (nI_ge (show (pz_cu n.1 C d).length < 7 by omega) (by omega)), pq_2 Pk, Option.bind_some, pq_dl Pk hd, Option.bind_some, pq_3 Pk, Option.bind_some, pq_dg Pk hd, Option.bind_some, cq_ck Ck, f1, Option.bind_some]
      simp only [zq_let, nI_add]
      exact ⟨_, rfl, by rw [hs, hcl], rfl, e3.tr f2, by rw [hs]; exact f3⟩
  · rintro ⟨s1, s2, k⟩ ⟨e1, e2, e3, e4⟩
    simp only at e1 e2 e3 e4
    subst e1; subst e2
    have Bk := B.a103 e3
    obtain ⟨Pk, -⟩ := Bk.p S.2.1
    rw [pq_1 Pk, Option.bind_some, if_pos (nI_le (Nat.le_refl _) (by omega))]
    exact ⟨_, rfl, rfl, e3, e4⟩
/-- a Reach that has been measured, the parts kept -/
theorem s_meas3 (B : pz_CB h b tl tx) {g s : Nat} (hg : g < b) (hg6 : g < 6) (hs : pz_T g s) : ∃ h', f_X2_measure h 99 (2 + 12 * g) (nI s) 0 = some h' ∧ pz_ag (fun a => a < 99 ∨ 103 ≤ a) h h' ∧ pz_CB h' b tl tx ∧ ∃ M sl, pz_Gs h' (2 + 12 * g) g ∧ pz_Gb h' (2 + 12 * g) g M sl ∧ pz_Rs h' 99 ∧ pz_Rm h' 99 (2 + 12 * g) g M 0 s := by
  obtain ⟨C, Cg, Cr, Ct⟩ := B
  obtain ⟨G, G2, -⟩ := Cg g hg6
  obtain ⟨M, sl, Gb⟩ := G2 hg
  obtain ⟨R, Rc⟩ := Cr 3 (by omega)
  obtain ⟨h', e1, e2, e3, e4⟩ := s_measure (K := 0) G Gb R Rc rfl (by omega) hs (Nat.zero_and _)
  have l : pz_ag (fun a => a < 99 ∨ 103 ≤ a) h h' := e2.mono (fun a ha => by omega)
  have Gb' := Gb.ag e2 (fun i hi => by omega)
  refine ⟨h', e1, l, ⟨C.r l.1 (fun a j ha => l.r (by omega) j), Cg.ag l (fun a h1 h2 => by omega), fun k' hk' => ?_, Ct.ag l (by omega)⟩, M, sl, G.ag e2 (fun i hi => by omega), Gb', e3, e4⟩
  by_cases q : k' = 3
  · subst q
    exact ⟨e3, e4.c Gb' hg6 rfl hs (Nat.zero_and _)⟩
  · exact ⟨(Cr k' hk').1.ag e2 (by omega), (Cr k' hk').2.ag e2 (fun i hi => by omega) (fun a h1 h2 => by omega)⟩
theorem s_freeDistanceInPart (B : pz_CB h b tl tx) (S : pz_CS h b n sn sv sp) {C X : Nat} (hC : pz_nc n.1 C) (hX : X ∈ pz_cu n.1 C (pz_nd n.1)) (c1 : C &&& n.2.1 = C) (c2 : C &&& n.2.2.1 = C) : ∃ h', f_X5_freeDistanceInPart h 0 (nI X) = some (nI (pz_pd n.1 n.2.1 n.2.2.1 X), h') ∧ pz_ag (fun a => a < 99 ∨ 103 ≤ a) h h' ∧ pz_CB h' b tl tx := by
  have hg := S.2.1.T.1
  have hnb := S.2.1.1
  have hP := S.2.1.T.2.1
  have hG := S.2.1.T.2.2.1
  have hX2 := (pz_dsc hg hC).2.1 X hX
  have hX9 : X < 512 := Nat.lt_of_lt_of_le hX2 (Nat.pow_le_pow_right (n := 2) (by omega) (show n.1 + 4 ≤ 9 by omega))
  have h27 : pz_rk X 27 = pz_rk X 9 := pz_rk_top (n := 9) hX9 18
  have hle := pz_rk_le X 9
  unfold f_X5_freeDistanceInPart
  rw [s_bc (by omega), pz_bc_512 hX9, h27, Option.bind_some]
  simp only [zq_let]
  by_cases r : 4 ≤ pz_rk X 9
  · obtain ⟨s1, s2, s3⟩ := pz_qg_e hg hX2 r
    have hq6 : pz_qg X < 6 := by omega
    have e4 : nI (pz_rk X 9) - 4 = nI (pz_qg X) := by
      rw [show (4 : Int32) = nI 4 from rfl, pk_sub r]; rfl
    obtain ⟨P, p0⟩ := B.p S.2.1
    obtain ⟨G2, -, -⟩ := B.2.1 (pz_qg X) hq6
    have e3 : 2 + 12 * pz_qg X + 1 = 3 + 12 * pz_qg X := by omega
    have P2 := G2.2.2.1
    rw [e3] at P2
    have p2 := gq_0 G2
    rw [e3] at p2
    have hTP := pz_pj_T hg hC hP c1 hX r
    have hTG := pz_pj_T hg hC hG c2 hX r
    obtain ⟨h', f1, f2, f3, M, sl, f4, f5, f6, f7⟩ := s_meas3 B (g := pz_qg X) (s := pz_pj n.1 X n.2.2.1) (by omega) hq6 hTG
    have S' : pz_CS h' b n sn sv sp := S.ag f2 ⟨by omega, fun a h1 h2 => by omega⟩
    obtain ⟨P', p0'⟩ := f3.p S.2.1
    have P2' := f4.2.2.1
    rw [e3] at P2'
    have e8 := s_flipsTo f4 f5 f6 f7 hTP
    rw [pz_ds_sym hq6 (pz_T_27 hq6 hTG) (pz_T_27 hq6 hTP), pz_dv_e hq6 hTP hTG] at e8
    have e8 : f_X2_flipsTo h' 99 (nI (pz_pj n.1 X n.2.1)) = some (nI (pz_dv (pz_qg X) (pz_pj n.1 X n.2.1) (pz_pj n.1 X n.2.2.1))) := e8
    rw [e4, if_neg (nI_pos (by omega))]
    simp only [cq_0 B.1, cq_n1 B.1, Option.bind_some]
    rw [if_pos (nI_lt hq6 (by omega))]
    simp only [cq_1 B.1, aq_0 B.1 S.1, p0, Option.bind_some, cq_gr B.1 hq6, p2, cq_9 B.1, aq_2 B.1 S.1]
    rw [pq_ck P, s_maskInPart P hX2 r P2 (pz_T_27 hg hG), Option.bind_some, rk_ck B.1 (j := 3) (by omega), f1, Option.bind_some]
    simp only [cq_9 f3.1, cq_1 f3.1, aq_1 f3.1 S'.1, Option.bind_some]
    rw [pq_ck P', s_maskInPart P' hX2 r P2' (pz_T_27 hg hP), Option.bind_some, rk_ck f3.1 (j := 3) (by omega), e8, Option.bind_some]
    refine ⟨h', ?_, f2, f3⟩
    unfold pz_pd
    rw [if_pos r]
  · have hneg : nI (pz_rk X 9) - 4 < 0 := by
      have : pz_rk X 9 < 4 := by omega
      generalize pz_rk X 9 = k at this
      match k, this with
      | 0, _ => decide
      | 1, _ => decide
      | 2, _ => decide
      | 3, _ => decide
    rw [if_pos hneg]
    refine ⟨h, ?_, pz_ag.rf, B⟩
    unfold pz_pd
    rw [if_neg r]
    rfl
theorem pz_ls_take {f : Nat → Nat} : ∀ {L : List Nat} {k : Nat}, k < L.length → pz_ls (L.take (k + 1)) f = pz_ls (L.take k) f + f (L.getD k 0)
  | S :: L, 0, _ => by
    show f S + pz_ls (L.take 0) f = pz_ls [] f + f S
    rw [List.take_zero]
    show f S + 0 = 0 + f S
    omega
  | S :: L, k + 1, h => by
    have ih := pz_ls_take (f := f) (L := L) (k := k) (Nat.lt_of_succ_lt_succ h)
    show f S + pz_ls (L.take (k + 1)) f = (f S + pz_ls (L.take k) f) + f (L.getD k 0)
    rw [ih]; omega
theorem pz_gd_mem : ∀ {L : List Nat} {k : Nat}, k < L.length → L.getD k 0 ∈ L
  | S :: L, 0, _ => List.mem_cons_self
  | S :: L, k + 1, h => List.mem_cons_of_mem _ (pz_gd_mem (L := L) (k := k) (Nat.lt_of_succ_lt_succ h))
theorem s_freeDistanceByParts (B : pz_CB h b tl tx) (S : pz_CS h b n sn sv sp) : ∃ h', f_X5_freeDistanceByParts h 0 = some (pz_cd (pz_ds n.1 (n.2.1 &&& n.2.2.1) n.2.1 n.2.2.1), h') ∧ pz_la h h' ∧ pz_CB h' b tl tx := by
  have hg := S.2.1.T.1
  have hP := S.2.1.T.2.1
  have hG := S.2.1.T.2.2.1
  have hP27 := pz_T_27 hg hP
  have hG27 := pz_T_27 hg hG
  have c1 : (n.2.1 &&& n.2.2.1) &&& n.2.1 = n.2.1 &&& n.2.2.1 := pz_bit_sub (fun i hi => by rw [Nat.testBit_and, Bool.and_eq_true] at hi; exact hi.1)
  have c2 : (n.2.1 &&& n.2.2.1) &&& n.2.2.1 = n.2.1 &&& n.2.2.1 := pz_bit_sub (fun i hi => by rw [Nat.testBit_and, Bool.and_eq_true] at hi; exact hi.2)
  have hC : pz_nc n.1 (n.2.1 &&& n.2.2.1) := pz_nc_sub (pz_T_nc hg hP) (fun i hi => by rw [Nat.testBit_and, Bool.and_eq_true] at hi; exact hi.1)
  rw [pz_parts hg hP hG]
  have h7 := (pz_dsc hg hC).1.1
  unfold f_X5_freeDistanceByParts
  rw [cq_1 B.1, Option.bind_some, aq_1 B.1 S.1, Option.bind_some, Option.bind_some, aq_2 B.1 S.1, Option.bind_some, cq_ck B.1, pz_and (by omega) (by omega)]
  generalize n.2.1 &&& n.2.2.1 = C at c1 c2 hC h7
  obtain ⟨k, e1, e2, e3⟩ := s_cutIntoParts B S hC
  rw [e1, Option.bind_some]
  refine pz_pair (pz_lpIB (fun i s => s.1 = nI (pz_ls ((pz_cu n.1 C (pz_nd n.1)).take i) (pz_pd n.1 n.2.1 n.2.2.1)) ∧ s.2.1 = nI i ∧ pz_CB s.2.2 b tl tx ∧ pz_la h s.2.2 ∧ pz_Lp s.2.2 (pz_cu n.1 C (pz_nd n.1))) (pz_cu n.1 C (pz_nd n.1)).length (fun r => r.1 = nI (pz_ls (pz_cu n.1 C (pz_nd n.1)) (pz_pd n.1 n.2.1 n.2.2.1)) ∧ pz_la h r.2 ∧ pz_CB r.2 b tl tx) ?_ ⟨by rw [List.take_zero]; rfl, rfl, B.a103 e2, (show pz_la h k from e2.mono (fun a ha => by omega)), e3⟩ ?_ ?_ (by omega))
  · rintro ⟨r1, r2⟩ ⟨q1, q2, q3⟩
    simp only at q1
    subst q1
    exact ⟨_, rfl, _, rfl, q2, q3⟩
  · rintro i ⟨s1, s2, k2⟩ hi ⟨f1, f2, f3, f4, f5⟩
    simp only at f1 f2 f3 f4 f5
    subst f1; subst f2
    have S2 := pz_la.S f4 S
    obtain ⟨k3, g1, g2, g3⟩ := s_freeDistanceInPart f3 S2 hC (pz_gd_mem hi) c1 c2
    rw [if_neg (nI_ge hi (by omega)), cq_10 f3.1, Option.bind_some, wq_a f3.1 (by omega), (f5 i hi).1, Option.bind_some, cq_ck f3.1, g1, Option.bind_some]
    simp only [zq_let, nI_1, nI_add]
    exact ⟨_, rfl, by rw [pz_ls_take hi], rfl, g3, f4.tr (g2.mono (fun a ha => by omega)), fun j hj => by rw [g2.i (t := 103) (by omega)]; exact f5 j hj⟩
  · rintro ⟨s1, s2, k2⟩ ⟨f1, f2, f3, f4, f5⟩
    simp only at f1 f2 f3 f4 f5
    subst f1; subst f2
    rw [if_pos (nI_le (Nat.le_refl _) (by omega))]
    exact ⟨_, rfl, by rw [List.take_length], f4, f3⟩
theorem s_distanceNumber (B : pz_CB h b tl tx) (S : pz_CS h b n sn sv sp) {y : Nat} (hy : y < 1000) : ∃ h', f_X5_distanceNumber h 0 (nI y) = some (pz_dn n y, h') ∧ pz_la h h' ∧ pz_CB h' b tl tx := by
  have hg := S.2.1.T.1
  have hP := S.2.1.T.2.1
  have hP27 := pz_T_27 hg hP
  have hG27 := pz_T_27 hg S.2.1.T.2.2.1
  have e0 : (nI y = 0) = (y = 0) := pz_case y 0 hy (by omega)
  have e1 : (nI y = 1) = (y = 1) := pz_case y 1 hy (by omega)
  have e2 : (nI y = 2) = (y = 2) := pz_case y 2 hy (by omega)
  have e3 : (nI y = 3) = (y = 3) := pz_case y 3 hy (by omega)
  have e4 : (nI y = 4) = (y = 4) := pz_case y 4 hy (by omega)
  unfold f_X5_distanceNumber pz_dn
  simp only [e0, e1, e2, e3, e4, cq_ck B.1]
  by_cases q0 : y = 0
  · obtain ⟨h', f1, f2, f3⟩ := s_distanceWithLocks B S
    rw [if_pos q0, if_pos q0, f1]; exact ⟨h', rfl, f2, f3⟩
  rw [if_neg q0, if_neg q0]
  by_cases q1 : y = 1
  · obtain ⟨h', f1, f2, f3⟩ := s_freeDistance B S
    rw [if_pos q1, if_pos q1, f1]; exact ⟨h', rfl, f2, f3⟩
  rw [if_neg q1, if_neg q1]
  by_cases q2 : y = 2
  · obtain ⟨h', f1, f2, f3⟩ := s_freeDistanceByParts B S
    rw [if_pos q2, if_pos q2, f1]; exact ⟨h', rfl, f2, f3⟩
  rw [if_neg q2, if_neg q2]
  by_cases q3 : y = 3
  · obtain ⟨h', f1, f2, f3⟩ := s_shortestWays B S
    rw [if_pos q3, if_pos q3, f1]; exact ⟨h', rfl, f2, f3⟩
  rw [if_neg q3, if_neg q3]
  by_cases q4 : y = 4
  · obtain ⟨h', f1, f2, f3⟩ := s_nextFlip B S
    rw [if_pos q4, if_pos q4, f1]; exact ⟨h', rfl, f2, f3⟩
  rw [if_neg q4, if_neg q4]
  have hC : pz_nc n.1 (n.2.1 &&& n.2.2.1) := pz_nc_sub (pz_T_nc hg hP) (fun i hi => by rw [Nat.testBit_and, Bool.and_eq_true] at hi; exact hi.1)
  rw [cq_1 B.1, Option.bind_some, aq_1 B.1 S.1, Option.bind_some, Option.bind_some, aq_2 B.1 S.1, Option.bind_some, pz_and (by omega) (by omega), s_bc (Nat.lt_of_le_of_lt Nat.and_le_left (by omega)), pz_bc_nc hg hC]
  exact ⟨h, rfl, pz_ag.rf, B⟩
variable {A : pz_A}
theorem c_distance (C : pz_C h A) (y : Int32) : ∃ o, f_X5_distance h 0 y = some o ∧ pz_oc h A (R_distance A y) o := by
  obtain ⟨b, B, S⟩ := id C
  unfold f_X5_distance R_distance pz_inb
  by_cases h1 : y < 0
  · rw [if_pos h1, if_neg (by simp [h1])]
    exact ⟨_, rfl, pz_oc.x rfl C pz_ag.rf⟩
  · obtain ⟨a, ha, rfl⟩ := nI_of h1
    rw [if_neg h1]
    by_cases h2 : a < 6
    · obtain ⟨h', e1, e2, e3⟩ := s_distanceNumber B S (y := a) (by omega)
      rw [if_pos (show nI a < (6 : Int32) from nI_lt (b := 6) h2 (by omega)), cq_ck B.1, e1, Option.bind_some, if_pos (by rw [decide_eq_true_eq]; exact ⟨h1, nI_ge h2 (by omega)⟩), nI_clamp ha]
      exact ⟨_, rfl, pz_oc.v rfl (pz_C.la S e2 e3) e2.kc⟩
    · rw [if_neg (show ¬ nI a < (6 : Int32) from nI_nlt (b := 6) (by omega) ha), if_neg (by rw [decide_eq_true_eq]; exact fun q => q.2 (nI_le (by omega) ha))]
      exact ⟨_, rfl, pz_oc.x rfl C pz_ag.rf⟩
end PZCQ
