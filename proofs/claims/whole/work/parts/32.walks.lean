/-! sums, walks in a graph, searches in breadth: pure -/
def pz_sm (f : Nat → Nat) : Nat → Nat
  | 0 => 0
  | n + 1 => pz_sm f n + f n
theorem pz_sm_cong {f g : Nat → Nat} : ∀ {n : Nat}, (∀ i, i < n → f i = g i) → pz_sm f n = pz_sm g n
  | 0, _ => rfl
  | n + 1, h => by
    unfold pz_sm
    rw [pz_sm_cong (fun i hi => h i (by omega)), h n (by omega)]
theorem pz_sm_0 {f : Nat → Nat} : ∀ {n : Nat}, (∀ i, i < n → f i = 0) → pz_sm f n = 0
  | 0, _ => rfl
  | n + 1, h => by
    unfold pz_sm
    rw [pz_sm_0 (fun i hi => h i (by omega)), h n (by omega)]
theorem pz_sm_add (f g : Nat → Nat) : ∀ n, pz_sm (fun i => f i + g i) n = pz_sm f n + pz_sm g n
  | 0 => rfl
  | n + 1 => by
    unfold pz_sm
    rw [pz_sm_add f g n]
    omega
theorem pz_sm_mul (c : Nat) (f : Nat → Nat) : ∀ n, pz_sm (fun i => c * f i) n = c * pz_sm f n
  | 0 => rfl
  | n + 1 => by
    unfold pz_sm
    rw [pz_sm_mul c f n, Nat.mul_add]
theorem pz_sm_mulr (c : Nat) (f : Nat → Nat) (n : Nat) : pz_sm (fun i => f i * c) n = pz_sm f n * c := by
  rw [Nat.mul_comm, ← pz_sm_mul]
  exact pz_sm_cong (fun i _ => Nat.mul_comm _ _)
theorem pz_sm_one {f : Nat → Nat} {i : Nat} : ∀ {n : Nat}, i < n → (∀ j, j < n → j ≠ i → f j = 0) → pz_sm f n = f i
  | n + 1, hi, h => by
    unfold pz_sm
    by_cases e : i = n
    · subst e
      rw [pz_sm_0 (fun j hj => h j (by omega) (by omega))]
      omega
    · rw [pz_sm_one (n := n) (by omega) (fun j hj hn => h j (by omega) hn), h n (by omega) (by omega)]
      omega
theorem pz_sm_pos {f : Nat → Nat} : ∀ {n : Nat}, 0 < pz_sm f n → ∃ i, i < n ∧ 0 < f i
  | 0, h => absurd h (Nat.lt_irrefl 0)
  | n + 1, h => by
    unfold pz_sm at h
    by_cases e : 0 < f n
    · exact ⟨n, by omega, e⟩
    · obtain ⟨i, h1, h2⟩ := pz_sm_pos (f := f) (n := n) (by omega)
      exact ⟨i, by omega, h2⟩
theorem pz_sm_le {f : Nat → Nat} {i : Nat} : ∀ {n : Nat}, i < n → f i ≤ pz_sm f n
  | n + 1, h => by
    unfold pz_sm
    by_cases e : i = n
    · subst e; omega
    · have := pz_sm_le (f := f) (n := n) (i := i) (by omega)
      omega
theorem pz_sm_swap (f : Nat → Nat → Nat) (m : Nat) : ∀ n, pz_sm (fun i => pz_sm (fun j => f i j) m) n = pz_sm (fun j => pz_sm (fun i => f i j) n) m
  | 0 => by
    exact (pz_sm_0 (f := fun j => pz_sm (fun i => f i j) 0) (fun _ _ => rfl)).symm
  | n + 1 => by
    show pz_sm (fun i => pz_sm (fun j => f i j) m) n + pz_sm (fun j => f n j) m = _
    rw [pz_sm_swap f m n, ← pz_sm_add]
    rfl
/-- how often v stands in a list -/
def pz_ct (v : Nat) : List Nat → Nat
  | [] => 0
  | w :: l => (if w = v then 1 else 0) + pz_ct v l
theorem pz_ct_app (v : Nat) (l m : List Nat) : pz_ct v (l ++ m) = pz_ct v l + pz_ct v m := by
  induction l with
  | nil => simp [pz_ct]
  | cons w l ih => simp only [List.cons_append, pz_ct, ih]; omega
theorem pz_ct_pos {v : Nat} {l : List Nat} : 0 < pz_ct v l ↔ v ∈ l := by
  induction l with
  | nil => simp [pz_ct]
  | cons w l ih =>
    simp only [pz_ct, List.mem_cons]
    by_cases e : w = v
    · subst e; simp; omega
    · rw [if_neg e, Nat.zero_add, ih]
      exact ⟨Or.inr, fun h => h.elim (fun q => absurd q.symm e) id⟩
def pz_ls (l : List Nat) (f : Nat → Nat) : Nat := (l.map f).sum
theorem pz_ls_sm {N : Nat} (f : Nat → Nat) : ∀ (l : List Nat), (∀ w ∈ l, w < N) → pz_ls l f = pz_sm (fun u => pz_ct u l * f u) N
  | [], _ => by
    show 0 = _
    rw [pz_sm_0 (fun i _ => by simp [pz_ct])]
  | w :: l, h => by
    have ih := pz_ls_sm (N := N) f l (fun x hx => h x (List.mem_cons_of_mem _ hx))
    have e : pz_ls (w :: l) f = f w + pz_ls l f := by simp [pz_ls]
    rw [e, ih]
    have e2 : pz_sm (fun u => pz_ct u (w :: l) * f u) N = pz_sm (fun u => (if w = u then 1 else 0) * f u + pz_ct u l * f u) N := pz_sm_cong (fun i _ => by simp only [pz_ct, Nat.add_mul])
    rw [e2, pz_sm_add]
    congr 1
    rw [pz_sm_one (f := fun u => (if w = u then 1 else 0) * f u) (h w List.mem_cons_self) (fun j _ hj => by simp [Ne.symm hj])]
    simp
/-- walks of k steps from s to t -/
def pz_wk (nb : Nat → List Nat) : Nat → Nat → Nat → Nat
  | 0, s, t => if s = t then 1 else 0
  | k + 1, s, t => pz_ls (nb s) (fun u => pz_wk nb k u t)
section PZW
variable {N : Nat} {nb : Nat → List Nat}
theorem pz_wk_l (hN : ∀ u, u < N → ∀ w ∈ nb u, w < N) (k : Nat) {s : Nat} (t : Nat) (hs : s < N) : pz_wk nb (k + 1) s t = pz_sm (fun u => pz_ct u (nb s) * pz_wk nb k u t) N := pz_ls_sm _ _ (hN s hs)
theorem pz_wk_r (hN : ∀ u, u < N → ∀ w ∈ nb u, w < N) : ∀ (k : Nat) {s t : Nat}, s < N → t < N → pz_wk nb (k + 1) s t = pz_sm (fun u => pz_wk nb k s u * pz_ct t (nb u)) N
  | 0, s, t, hs, ht => by
    rw [pz_wk_l hN 0 t hs]
    rw [pz_sm_one (f := fun u => pz_ct u (nb s) * pz_wk nb 0 u t) ht (fun j _ hj => by simp [pz_wk, hj])]
    rw [pz_sm_one (f := fun u => pz_wk nb 0 s u * pz_ct t (nb u)) hs (fun j _ hj => by simp [pz_wk, Ne.symm hj])]
    simp [pz_wk]
  | k + 1, s, t, hs, ht => by
    rw [pz_wk_l hN (k + 1) t hs]
    have e1 : pz_sm (fun u => pz_ct u (nb s) * pz_wk nb (k + 1) u t) N = pz_sm (fun u => pz_sm (fun v => pz_ct u (nb s) * (pz_wk nb k u v * pz_ct t (nb v))) N) N := pz_sm_cong (fun u hu => by rw [pz_wk_r hN k hu ht, pz_sm_mul])
    rw [e1, pz_sm_swap]
    refine pz_sm_cong (fun v _ => ?_)
    rw [pz_wk_l hN k v hs, ← pz_sm_mulr]
    exact pz_sm_cong (fun u _ => by rw [Nat.mul_assoc])
theorem pz_wk_sym (hN : ∀ u, u < N → ∀ w ∈ nb u, w < N) (hA : ∀ u v, u < N → v < N → pz_ct u (nb v) = pz_ct v (nb u)) : ∀ (k : Nat) {s t : Nat}, s < N → t < N → pz_wk nb k s t = pz_wk nb k t s
  | 0, s, t, _, _ => by
    unfold pz_wk
    by_cases e : s = t
    · rw [if_pos e, if_pos e.symm]
    · rw [if_neg e, if_neg (fun q => e q.symm)]
  | k + 1, s, t, hs, ht => by
    rw [pz_wk_l hN k t hs, pz_wk_r hN k ht hs]
    exact pz_sm_cong (fun u hu => by rw [pz_wk_sym hN hA k hu ht, hA u s hu hs, Nat.mul_comm])
/-- other numbers for the same graph -/
theorem pz_wk_map {nb2 : Nat → List Nat} (M : Nat → Nat) (hN : ∀ u, u < N → ∀ w ∈ nb u, w < N) (hM : ∀ i j, i < N → j < N → M i = M j → i = j) (hnb : ∀ u, u < N → nb2 (M u) = (nb u).map M) : ∀ (k : Nat) {s t : Nat}, s < N → t < N → pz_wk nb2 k (M s) (M t) = pz_wk nb k s t
  | 0, s, t, hs, ht => by
    unfold pz_wk
    by_cases e : s = t
    · rw [if_pos e, if_pos (by rw [e])]
    · rw [if_neg e, if_neg (fun q => e (hM s t hs ht q))]
  | k + 1, s, t, hs, ht => by
    unfold pz_wk pz_ls
    rw [hnb s hs, List.map_map]
    congr 1
    apply List.map_congr_left
    intro u hu
    exact pz_wk_map M hN hM hnb k (hN s hs u hu) ht
/-- a graph with two lists of ways out that agree on what can be reached from s -/
theorem pz_wk_on {nb2 : Nat → List Nat} (S : Nat → Prop) (hS : ∀ u, S u → ∀ w ∈ nb u, S w) (he : ∀ u, S u → nb2 u = nb u) : ∀ (k : Nat) {s : Nat} (t : Nat), S s → pz_wk nb2 k s t = pz_wk nb k s t
  | 0, _, _, _ => rfl
  | k + 1, s, t, hs => by
    unfold pz_wk pz_ls
    rw [he s hs]
    congr 1
    apply List.map_congr_left
    intro u hu
    exact pz_wk_on S hS he k t (hS s hs u hu)
theorem pz_wk_out (S : Nat → Prop) (hS : ∀ u, S u → ∀ w ∈ nb u, S w) : ∀ (k : Nat) {s t : Nat}, S s → ¬ S t → pz_wk nb k s t = 0
  | 0, s, t, hs, ht => by
    have e : ¬ s = t := fun e => ht (by rw [← e]; exact hs)
    unfold pz_wk
    rw [if_neg e]
  | k + 1, s, t, hs, ht => by
    unfold pz_wk pz_ls
    have : (nb s).map (fun u => pz_wk nb k u t) = (nb s).map (fun _ => 0) := List.map_congr_left (fun u hu => pz_wk_out S hS k (hS s hs u hu) ht)
    rw [this]
    induction nb s with
    | nil => rfl
    | cons a l ih => simpa using ih
end PZW
