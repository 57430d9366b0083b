/-! a search in breadth finds distances and numbers of ways: pure -/
abbrev pz_St : Type := (Nat → Option Nat) × (Nat → Nat) × List Nat
/-- along one edge to v, from a place fu away with wu ways -/
def pz_e (fu wu : Nat) (S : pz_St) (v : Nat) : pz_St := match S.1 v with
  | none => (fun x => if x = v then some (fu + 1) else S.1 x, fun x => if x = v then S.2.1 v + wu else S.2.1 x, S.2.2 ++ [v])
  | some k => if k = fu + 1 then (S.1, fun x => if x = v then S.2.1 v + wu else S.2.1 x, S.2.2) else S
theorem pz_e_some {fu wu : Nat} {S : pz_St} {v x k : Nat} (h : S.1 x = some k) : (pz_e fu wu S v).1 x = some k := by
  unfold pz_e
  cases hv : S.1 v with
  | none =>
    have e : x ≠ v := fun e => by rw [e, hv] at h; cases h
    simp only [if_neg e]
    exact h
  | some j =>
    simp only
    by_cases e : j = fu + 1
    · rw [if_pos e]; exact h
    · rw [if_neg e]; exact h
theorem pz_e_none {fu wu : Nat} {S : pz_St} {v x : Nat} (h : S.1 x = none) : (pz_e fu wu S v).1 x = if x = v then some (fu + 1) else none := by
  unfold pz_e
  cases hv : S.1 v with
  | none =>
    simp only
    by_cases e : x = v
    · rw [if_pos e, if_pos e]
    · rw [if_neg e, if_neg e]; exact h
  | some j =>
    have e : x ≠ v := fun e => by rw [e, hv] at h; cases h
    rw [if_neg e]
    simp only
    by_cases e2 : j = fu + 1
    · rw [if_pos e2]; exact h
    · rw [if_neg e2]; exact h
theorem pz_e_at {fu wu : Nat} {S : pz_St} {v : Nat} : (pz_e fu wu S v).1 v ≠ none := by
  cases hv : S.1 v with
  | none => rw [pz_e_none hv, if_pos rfl]; simp
  | some j => rw [pz_e_some hv]; simp
theorem pz_e_ways {fu wu : Nat} {S : pz_St} {v x : Nat} : (pz_e fu wu S v).2.1 x = S.2.1 x + if x = v ∧ (pz_e fu wu S v).1 v = some (fu + 1) then wu else 0 := by
  cases hv : S.1 v with
  | none =>
    rw [pz_e_none hv, if_pos rfl]
    unfold pz_e
    rw [hv]
    simp only
    by_cases e : x = v
    · subst e; simp
    · simp [e]
  | some j =>
    rw [pz_e_some hv]
    unfold pz_e
    rw [hv]
    simp only
    by_cases e2 : j = fu + 1
    · rw [if_pos e2]
      simp only
      by_cases e : x = v
      · rw [if_pos e, if_pos ⟨e, by rw [e2]⟩, e]
      · rw [if_neg e, if_neg (fun h => e h.1)]; rfl
    · rw [if_neg e2, if_neg (fun h => e2 (Option.some.inj h.2))]; rfl
theorem pz_e_ord {fu wu : Nat} {S : pz_St} {v : Nat} : (pz_e fu wu S v).2.2 = S.2.2 ++ if S.1 v = none then [v] else [] := by
  cases hv : S.1 v with
  | none =>
    rw [if_pos rfl]
    unfold pz_e
    rw [hv]
  | some j =>
    rw [if_neg (by simp)]
    unfold pz_e
    rw [hv]
    simp only
    by_cases e2 : j = fu + 1
    · rw [if_pos e2]; simp
    · rw [if_neg e2]; simp
def pz_f (fu wu : Nat) (S : pz_St) (l : List Nat) : pz_St := l.foldl (pz_e fu wu) S
theorem pz_f_some {fu wu x k : Nat} : ∀ {l : List Nat} {S : pz_St}, S.1 x = some k → (pz_f fu wu S l).1 x = some k
  | [], _, h => h
  | v :: l, S, h => pz_f_some (l := l) (S := pz_e fu wu S v) (pz_e_some h)
theorem pz_f_none {fu wu x : Nat} : ∀ {l : List Nat} {S : pz_St}, S.1 x = none → (pz_f fu wu S l).1 x = if x ∈ l then some (fu + 1) else none
  | [], S, h => by simpa [pz_f] using h
  | v :: l, S, h => by
    show (pz_f fu wu (pz_e fu wu S v) l).1 x = _
    have h1 := pz_e_none (fu := fu) (wu := wu) (v := v) h
    by_cases e : x = v
    · rw [if_pos e] at h1
      rw [pz_f_some h1, if_pos (by rw [e]; exact List.mem_cons_self)]
    · rw [if_neg e] at h1
      rw [pz_f_none h1]
      by_cases e2 : x ∈ l
      · rw [if_pos e2, if_pos (List.mem_cons_of_mem _ e2)]
      · rw [if_neg e2, if_neg (fun h => (List.mem_cons.mp h).elim e e2)]
theorem pz_f_ways {fu wu x : Nat} : ∀ {l : List Nat} {S : pz_St}, (pz_f fu wu S l).2.1 x = S.2.1 x + if (pz_f fu wu S l).1 x = some (fu + 1) then pz_ct x l * wu else 0
  | [], S => by
    show S.2.1 x = S.2.1 x + if S.1 x = some (fu + 1) then 0 * wu else 0
    simp
  | v :: l, S => by
    show (pz_f fu wu (pz_e fu wu S v) l).2.1 x = S.2.1 x + if (pz_f fu wu (pz_e fu wu S v) l).1 x = some (fu + 1) then pz_ct x (v :: l) * wu else 0
    rw [pz_f_ways (l := l) (S := pz_e fu wu S v), pz_e_ways, show pz_ct x (v :: l) = (if v = x then 1 else 0) + pz_ct x l from rfl]
    by_cases e : v = x
    · subst e
      cases h1 : (pz_e fu wu S v).1 v with
      | none => exact absurd h1 pz_e_at
      | some k =>
        rw [pz_f_some h1, if_pos rfl]
        by_cases e2 : k = fu + 1
        · subst e2
          simp only [and_self, if_true]
          rw [Nat.add_mul]
          omega
        · rw [if_neg (fun h => e2 (Option.some.inj h.2)), if_neg (fun h => e2 (Option.some.inj h)), if_neg (fun h => e2 (Option.some.inj h))]
    · rw [if_neg (fun h => e h.1.symm), if_neg e, Nat.zero_add, Nat.add_zero]
theorem pz_f_ord {fu wu : Nat} : ∀ {l : List Nat} {S : pz_St}, ∃ nw : List Nat, (pz_f fu wu S l).2.2 = S.2.2 ++ nw ∧ nw.Nodup ∧ ∀ x, x ∈ nw ↔ x ∈ l ∧ S.1 x = none
  | [], S => ⟨[], by simp [pz_f], List.nodup_nil, fun x => by simp⟩
  | v :: l, S => by
    obtain ⟨nw, h1, h2, h3⟩ := pz_f_ord (fu := fu) (wu := wu) (l := l) (S := pz_e fu wu S v)
    refine ⟨(if S.1 v = none then [v] else []) ++ nw, ?_, ?_, ?_⟩
    · show (pz_f fu wu (pz_e fu wu S v) l).2.2 = _
      rw [h1, pz_e_ord, List.append_assoc]
    · by_cases e : S.1 v = none
      · rw [if_pos e, List.singleton_append, List.nodup_cons]
        exact ⟨fun h => pz_e_at (h3 v |>.mp h).2, h2⟩
      · rw [if_neg e]; exact h2
    · intro x
      rw [List.mem_append, h3]
      by_cases hx : S.1 x = none
      · rw [pz_e_none hx]
        by_cases e : x = v
        · subst e
          simp [hx]
        · have e2 : x ∉ (if S.1 v = none then [v] else []) := by
            by_cases e3 : S.1 v = none
            · rw [if_pos e3]; simpa using e
            · rw [if_neg e3]; simp
          simp [e, e2, hx]
      · obtain ⟨k, hk⟩ := Option.ne_none_iff_exists'.mp hx
        have e2 : x ∉ (if S.1 v = none then [v] else []) := by
          by_cases e3 : S.1 v = none
          · rw [if_pos e3]
            intro h
            rw [List.mem_singleton] at h
            rw [h] at hx
            exact hx e3
          · rw [if_neg e3]; simp
        rw [pz_e_some hk, hk]
        simp [e2]
def pz_F (S : pz_St) (x : Nat) : Nat := (S.1 x).getD 0
theorem pz_F_of {S : pz_St} {x k : Nat} (h : S.1 x = some k) : pz_F S x = k := by simp [pz_F, h]
/-- what holds when done has been gone on from, and todo not yet -/
def pz_I (N s : Nat) (nb : Nat → List Nat) (S : pz_St) (done todo : List Nat) : Prop :=
  S.2.2 = done ++ todo ∧ (done ++ todo).Nodup ∧ (∀ x, x ∈ done ++ todo ↔ S.1 x ≠ none) ∧ (∀ x ∈ done ++ todo, x < N) ∧
  (done ++ todo).Pairwise (fun a b => pz_F S a ≤ pz_F S b) ∧ (∀ u r, todo = u :: r → ∀ x ∈ done ++ todo, pz_F S x ≤ pz_F S u + 1) ∧
  (∀ x k, S.1 x = some k → 0 < pz_wk nb k s x) ∧
  (∀ u ∈ done, ∀ w ∈ nb u, ∃ k, S.1 w = some k ∧ k ≤ pz_F S u + 1) ∧
  (∀ x, S.2.1 x = (if x = s then 1 else 0) + pz_ls done (fun u => if S.1 x = some (pz_F S u + 1) then pz_ct x (nb u) * S.2.1 u else 0)) ∧ S.1 s = some 0
def pz_s0 (s : Nat) : pz_St := (fun x => if x = s then some 0 else none, fun x => if x = s then 1 else 0, [s])
theorem pz_I0 {N s : Nat} (nb : Nat → List Nat) (hs : s < N) : pz_I N s nb (pz_s0 s) [] [s] := by
  have hF : ∀ x k, (pz_s0 s).1 x = some k → x = s ∧ k = 0 := by
    intro x k h
    simp only [pz_s0] at h
    by_cases e : x = s
    · rw [if_pos e] at h; exact ⟨e, (Option.some.inj h).symm⟩
    · rw [if_neg e] at h; cases h
  refine ⟨rfl, by simp, ?_, ?_, by simp, ?_, ?_, ?_, ?_, by simp [pz_s0]⟩
  · intro x
    simp [pz_s0]
  · intro x hx
    simp at hx
    omega
  · intro u r h x hx
    simp at hx h
    have h1 : pz_F (pz_s0 s) x = 0 := pz_F_of (by simp [pz_s0, hx])
    omega
  · intro x k h
    obtain ⟨h1, h2⟩ := hF x k h
    subst h1; subst h2
    simp [pz_wk]
  · intro u hu
    cases hu
  · intro x
    simp [pz_s0, pz_ls]
theorem pz_ls_cong {f g : Nat → Nat} : ∀ {l : List Nat}, (∀ u ∈ l, f u = g u) → pz_ls l f = pz_ls l g
  | [], _ => rfl
  | a :: l, h => by
    have h1 := pz_ls_cong (l := l) (fun u hu => h u (List.mem_cons_of_mem _ hu))
    unfold pz_ls at h1 ⊢
    rw [List.map_cons, List.map_cons, List.sum_cons, List.sum_cons, h1, h a List.mem_cons_self]
theorem pz_ls_0 : ∀ (l : List Nat), pz_ls l (fun _ => 0) = 0
  | [] => rfl
  | _ :: l => by
    have h := pz_ls_0 l
    unfold pz_ls at h ⊢
    rw [List.map_cons, List.sum_cons, h]
theorem pz_ls_app (f : Nat → Nat) (l m : List Nat) : pz_ls (l ++ m) f = pz_ls l f + pz_ls m f := by
  unfold pz_ls
  rw [List.map_append, List.sum_append]
theorem pz_ct_0 {v : Nat} {l : List Nat} (h : v ∉ l) : pz_ct v l = 0 := by
  rcases Nat.eq_zero_or_pos (pz_ct v l) with e | e
  · exact e
  · exact absurd (pz_ct_pos.mp e) h
theorem pz_ct_nd {v : Nat} : ∀ {l : List Nat}, l.Nodup → v ∈ l → pz_ct v l = 1
  | [], _, h => by cases h
  | a :: l, hn, h => by
    rw [List.nodup_cons] at hn
    unfold pz_ct
    by_cases e : a = v
    · subst e
      rw [if_pos rfl, pz_ct_0 hn.1]
    · rw [if_neg e, pz_ct_nd hn.2 ((List.mem_cons.mp h).resolve_left (fun q => e q.symm)), Nat.zero_add]
section PZBF
variable {N s : Nat} {nb : Nat → List Nat}
theorem pz_Istep (hN : ∀ u, u < N → ∀ w ∈ nb u, w < N) (hs : s < N) {S : pz_St} {done r : List Nat} {u : Nat} (h : pz_I N s nb S done (u :: r)) : ∃ r2, pz_I N s nb (pz_f (pz_F S u) (S.2.1 u) S (nb u)) (done ++ [u]) r2 := by
  obtain ⟨h0, h1, h2, h3, h4, h5, h6, h7, h8, h9⟩ := h
  have hu : S.1 u ≠ none := (h2 u).mp (by simp)
  obtain ⟨fu, hfu⟩ := Option.ne_none_iff_exists'.mp hu
  have hF : pz_F S u = fu := pz_F_of hfu
  rw [hF]
  have huN : u < N := h3 u (by simp)
  obtain ⟨nw, e1, e2, e3⟩ := pz_f_ord (fu := fu) (wu := S.2.1 u) (l := nb u) (S := S)
  generalize hS' : pz_f fu (S.2.1 u) S (nb u) = S' at e1
  have hold : ∀ x k, S.1 x = some k → S'.1 x = some k := fun x k hx => by rw [← hS']; exact pz_f_some hx
  have hnew : ∀ x, S.1 x = none → S'.1 x = if x ∈ nb u then some (fu + 1) else none := fun x hx => by rw [← hS']; exact pz_f_none hx
  have hw : ∀ x, S'.2.1 x = S.2.1 x + if S'.1 x = some (fu + 1) then pz_ct x (nb u) * S.2.1 u else 0 := fun x => by rw [← hS']; exact pz_f_ways
  have hsm : ∀ x ∈ done ++ u :: r, ∃ k, S.1 x = some k ∧ S'.1 x = some k ∧ pz_F S x = k ∧ pz_F S' x = k ∧ k ≤ fu + 1 := by
    intro x hx
    obtain ⟨k, hk⟩ := Option.ne_none_iff_exists'.mp ((h2 x).mp hx)
    have := h5 u r rfl x hx
    rw [hF, pz_F_of hk] at this
    exact ⟨k, hk, hold x k hk, pz_F_of hk, pz_F_of (hold x k hk), this⟩
  have hnw : ∀ x ∈ nw, S.1 x = none ∧ x ∈ nb u ∧ S'.1 x = some (fu + 1) ∧ pz_F S' x = fu + 1 := by
    intro x hx
    obtain ⟨a, b⟩ := (e3 x).mp hx
    have c := hnew x b
    rw [if_pos a] at c
    exact ⟨b, a, c, pz_F_of c⟩
  have hlt : ∀ x ∈ done, ∃ k, S.1 x = some k ∧ k ≤ fu := by
    intro x hx
    obtain ⟨k, a, -, b, -⟩ := hsm x (by simp [hx])
    have := (List.pairwise_append.mp h4).2.2 x hx u List.mem_cons_self
    rw [b, hF] at this
    exact ⟨k, a, this⟩
  have hfu' : S'.1 u = some fu := hold u fu hfu
  have hF' : pz_F S' u = fu := pz_F_of hfu'
  have ea : (done ++ [u]) ++ (r ++ nw) = (done ++ u :: r) ++ nw := by simp
  refine ⟨r ++ nw, ?_⟩
  rw [pz_I, ea]
  refine ⟨by rw [e1, h0], ?_, ?_, ?_, ?_, ?_, ?_, ?_, ?_, hold s 0 h9⟩
  · rw [List.nodup_append]
    refine ⟨h1, e2, ?_⟩
    intro a ha b hb hab
    subst hab
    exact (h2 a).mp ha (hnw a hb).1
  · intro x
    rw [List.mem_append, h2, e3]
    cases hx : S.1 x with
    | some k => simp [hold x k hx]
    | none =>
      rw [hnew x hx]
      by_cases e : x ∈ nb u
      · simp [e]
      · simp [e]
  · intro x hx
    rcases List.mem_append.mp hx with hx | hx
    · exact h3 x hx
    · exact hN u huN x (hnw x hx).2.1
  · rw [List.pairwise_append]
    refine ⟨?_, ?_, ?_⟩
    · refine List.Pairwise.imp_of_mem (fun {a b} ha hb hab => ?_) h4
      obtain ⟨k, -, -, a1, a2, -⟩ := hsm a ha
      obtain ⟨j, -, -, b1, b2, -⟩ := hsm b hb
      omega
    · have : ∀ (l : List Nat), (∀ x ∈ l, pz_F S' x = fu + 1) → l.Pairwise (fun a b => pz_F S' a ≤ pz_F S' b) := by
        intro l hl
        rw [List.pairwise_iff_forall_sublist]
        intro a b hab
        have h1 := hl a (hab.subset (by simp))
        have h2 := hl b (hab.subset (by simp))
        omega
      exact this nw (fun x hx => (hnw x hx).2.2.2)
    · intro a ha b hb
      obtain ⟨k, -, -, -, a2, a3⟩ := hsm a ha
      have := (hnw b hb).2.2.2
      omega
  · intro v r3 hv x hx
    have hxl : pz_F S' x ≤ fu + 1 := by
      rcases List.mem_append.mp hx with hx | hx
      · obtain ⟨k, -, -, -, a2, a3⟩ := hsm x hx
        omega
      · have := (hnw x hx).2.2.2
        omega
    have hvl : fu ≤ pz_F S' v := by
      have hv2 : v ∈ r ++ nw := by rw [hv]; exact List.mem_cons_self
      rcases List.mem_append.mp hv2 with hv2 | hv2
      · obtain ⟨k, -, -, b, b2, -⟩ := hsm v (by simp [hv2])
        have := (List.pairwise_cons.mp (List.pairwise_append.mp h4).2.1).1 v hv2
        omega
      · have := (hnw v hv2).2.2.2
        omega
    omega
  · intro x k hk
    cases hx : S.1 x with
    | some j =>
      have := hold x j hx
      rw [this] at hk
      cases hk
      exact h6 x _ hx
    | none =>
      have := hnew x hx
      rw [hk] at this
      by_cases e : x ∈ nb u
      · rw [if_pos e] at this
        cases this
        rw [pz_wk_r hN fu hs (hN u huN x e)]
        have h1 := pz_sm_le (f := fun u => pz_wk nb fu s u * pz_ct x (nb u)) huN
        have h2 : 0 < pz_wk nb fu s u * pz_ct x (nb u) := Nat.mul_pos (h6 u fu hfu) (pz_ct_pos.mpr e)
        omega
      · rw [if_neg e] at this
        cases this
  · intro v hv w hwv
    rcases List.mem_append.mp hv with hv | hv
    · obtain ⟨k, a1, a2⟩ := h7 v hv w hwv
      obtain ⟨j, -, -, b1, b2, -⟩ := hsm v (by simp [hv])
      exact ⟨k, hold w k a1, by omega⟩
    · rw [List.mem_singleton] at hv
      subst hv
      cases hx : S.1 w with
      | some j =>
        obtain ⟨k, a1, a2, -, -, a3⟩ := hsm w ((h2 w).mpr (by rw [hx]; simp))
        exact ⟨k, a2, by omega⟩
      | none =>
        have := hnew w hx
        rw [if_pos hwv] at this
        exact ⟨_, this, by omega⟩
  · intro x
    rw [hw x, h8 x, pz_ls_app, Nat.add_assoc]
    congr 1
    have k1 : pz_ls [u] (fun v => if S'.1 x = some (pz_F S' v + 1) then pz_ct x (nb v) * S'.2.1 v else 0) = if S'.1 x = some (fu + 1) then pz_ct x (nb u) * S.2.1 u else 0 := by
      show (if S'.1 x = some (pz_F S' u + 1) then pz_ct x (nb u) * S'.2.1 u else 0) + 0 = _
      rw [hF', hw u, hfu', if_neg (show ¬ some fu = some (fu + 1) by intro h; injection h; omega)]
      simp only [Nat.add_zero]
    rw [k1]
    congr 1
    refine pz_ls_cong (fun v hv => ?_)
    obtain ⟨k, a1, a2⟩ := hlt v hv
    have a3 := hold v k a1
    rw [pz_F_of a1, pz_F_of a3, hw v, a3, if_neg (show ¬ some k = some (fu + 1) by intro h; injection h; omega)]
    cases hx : S.1 x with
    | some j => rw [hold x j hx]; simp only [Nat.add_zero]
    | none =>
      have : pz_ct x (nb v) = 0 := pz_ct_0 (fun hm => by
        obtain ⟨k, b1, -⟩ := h7 v hv x hm
        rw [hx] at b1; cases b1)
      rw [this]
      simp
/-- at the end -/
theorem pz_Iend (hN : ∀ u, u < N → ∀ w ∈ nb u, w < N) (hs : s < N) {S : pz_St} {done : List Nat} (h : pz_I N s nb S done []) :
    (∀ k x, x < N → 0 < pz_wk nb k s x → ∃ j, S.1 x = some j ∧ j ≤ k) ∧ (∀ x k, S.1 x = some k → 0 < pz_wk nb k s x ∧ S.2.1 x = pz_wk nb k s x) ∧ (∀ x, S.1 x = none → S.2.1 x = 0) := by
  obtain ⟨h0, h1, h2, h3, h4, h5, h6, h7, h8, h9⟩ := h
  rw [List.append_nil] at h0 h1 h2 h3 h4
  have hA : ∀ k x, x < N → 0 < pz_wk nb k s x → ∃ j, S.1 x = some j ∧ j ≤ k := by
    intro k
    induction k with
    | zero =>
      intro x _ hx
      have e : s = x := by
        by_cases e : s = x
        · exact e
        · simp [pz_wk, e] at hx
      subst e
      exact ⟨0, h9, Nat.le_refl _⟩
    | succ k ih =>
      intro x hxN hx
      rw [pz_wk_r hN k hs hxN] at hx
      obtain ⟨u, hu, hpos⟩ := pz_sm_pos hx
      have hp1 : 0 < pz_wk nb k s u := Nat.pos_of_mul_pos_right hpos
      have hp2 : 0 < pz_ct x (nb u) := Nat.pos_of_mul_pos_left hpos
      obtain ⟨j, a1, a2⟩ := ih u hu hp1
      obtain ⟨i, b1, b2⟩ := h7 u ((h2 u).mpr (by rw [a1]; simp)) x (pz_ct_pos.mp hp2)
      rw [pz_F_of a1] at b2
      exact ⟨i, b1, by omega⟩
  refine ⟨hA, ?_, ?_⟩
  · intro x k
    induction k generalizing x with
    | zero =>
      intro hk
      refine ⟨h6 x 0 hk, ?_⟩
      have hp := h6 x 0 hk
      have e : s = x := by
        by_cases e : s = x
        · exact e
        · simp [pz_wk, e] at hp
      subst e
      rw [h8 s, if_pos rfl]
      have : pz_ls done (fun u => if S.1 s = some (pz_F S u + 1) then pz_ct s (nb u) * S.2.1 u else 0) = pz_ls done (fun _ => 0) := pz_ls_cong (fun u _ => by rw [h9]; simp)
      rw [this, pz_ls_0]
      simp [pz_wk]
    | succ k ih =>
      intro hk
      refine ⟨h6 x _ hk, ?_⟩
      have hxs : x ≠ s := fun e => by rw [e, h9] at hk; cases hk
      have hxN : x < N := h3 x ((h2 x).mpr (by rw [hk]; simp))
      rw [h8 x, if_neg hxs, Nat.zero_add, pz_wk_r hN k hs hxN, pz_ls_sm _ _ h3]
      refine pz_sm_cong (fun u hu => ?_)
      cases hfu : S.1 u with
      | none =>
        have e1 : pz_ct u done = 0 := pz_ct_0 (fun hm => (h2 u).mp hm hfu)
        have e2 : pz_wk nb k s u = 0 := by
          rcases Nat.eq_zero_or_pos (pz_wk nb k s u) with e | e
          · exact e
          · obtain ⟨j, a, -⟩ := hA k u hu e
            rw [hfu] at a; cases a
        rw [e1, e2]; simp
      | some fu =>
        have e1 : pz_ct u done = 1 := pz_ct_nd h1 ((h2 u).mpr (by rw [hfu]; simp))
        rw [e1, Nat.one_mul, pz_F_of hfu]
        by_cases e : fu = k
        · subst e
          rw [hk, if_pos rfl, (ih u hfu).2, Nat.mul_comm]
        · rw [hk, if_neg (show ¬ some (k + 1) = some (fu + 1) by intro h; cases h; exact e rfl)]
          rcases Nat.eq_zero_or_pos (pz_wk nb k s u * pz_ct x (nb u)) with e0 | e0
          · exact e0.symm
          · exfalso
            have hp1 : 0 < pz_wk nb k s u := Nat.pos_of_mul_pos_right e0
            have hp2 : 0 < pz_ct x (nb u) := Nat.pos_of_mul_pos_left e0
            obtain ⟨j, a1, a2⟩ := hA k u hu hp1
            rw [hfu] at a1; cases a1
            obtain ⟨i, b1, b2⟩ := h7 u ((h2 u).mpr (by rw [hfu]; simp)) x (pz_ct_pos.mp hp2)
            rw [hk] at b1; cases b1
            rw [pz_F_of hfu] at b2
            omega
  · intro x hx
    rw [h8 x, if_neg (fun e => by rw [e, h9] at hx; cases hx)]
    have : pz_ls done (fun u => if S.1 x = some (pz_F S u + 1) then pz_ct x (nb u) * S.2.1 u else 0) = pz_ls done (fun _ => 0) := pz_ls_cong (fun u _ => by rw [hx]; simp)
    rw [this, pz_ls_0]
end PZBF
