theorem pk_us {f : Nat → Int32} {k : Nat} {x : Int32} : upd f k x k = x := if_pos rfl
theorem pk_un {f : Nat → Int32} {k j : Nat} {x : Int32} (h : j ≠ k) : upd f k x j = f j := if_neg h
theorem pk_m1 (n : Nat) : nI (n + 1) + (-1) = nI n := by
  rw [← nI_1, Int32.add_assoc, show (1 : Int32) + (-1) = 0 from rfl, Int32.add_zero]
theorem pk_mul (a b : Nat) : nI a * nI b = nI (a * b) := (Int32.ofNat_mul a b).symm
theorem dl_10 : ¬ (1 : Int32) = 0 := by decide
theorem dl_c (a : Nat → Int32) {x : Int32} {m : Nat} (e : x = nI m) (h : m < 2 ^ 31) : a x.toNatClampNeg = a m := by rw [e, nI_clamp h]
theorem dl_v {x : Int32} {m M : Nat} (e : x = nI m) (h : m < M) (hM : M < 2 ^ 31) : vp_in x M := by rw [e]; exact vp_in_nI h hM
theorem dl_u {a : Nat → Int32} {x v w : Int32} {m : Nat} (e : x = nI m) (h : m < 2 ^ 31) (ev : v = w) : upd a x.toNatClampNeg v = upd a m w := by rw [e, nI_clamp h, ev]
theorem dl_e5 (j : Nat) : nI j * 5 = nI (j * 5) := pk_mul j 5
theorem dl_e5p (j w : Nat) : nI j * 5 + nI w = nI (j * 5 + w) := by rw [dl_e5, nI_add]
theorem dl_e16 (d i : Nat) : nI d * 16 + nI i = nI (d * 16 + i) := by
  have h : nI d * 16 = nI (d * 16) := pk_mul d 16
  rw [h, nI_add]
theorem dl_e6 (d i : Nat) : (nI d * 16 + nI i) * 6 = nI ((d * 16 + i) * 6) := by
  rw [dl_e16]
  exact pk_mul _ 6
theorem dl_e6p (d i w : Nat) : (nI d * 16 + nI i) * 6 + nI w = nI ((d * 16 + i) * 6 + w) := by rw [dl_e6, nI_add]
theorem dl_m1 {j : Nat} (h : j < 2 ^ 31) : ¬ nI j = -1 := by
  intro e
  have h1 := nI_toInt h
  rw [e] at h1
  have h2 : (-1 : Int32).toInt = -1 := by decide
  omega
theorem dl_m0 : (-1 : Int32) < 0 := by decide
/-! the first match at or behind b + 1 -/
def dl_G (M : Nat → Prop) (N b : Nat) (r : Int32) : Prop := (r = -1 ∧ ∀ j, b < j → j < N → ¬ M j) ∨ ∃ j, b < j ∧ j < N ∧ r = nI j ∧ M j ∧ ∀ i, b < i → i < j → ¬ M i
theorem dl_Gu {M M' : Nat → Prop} {N b : Nat} {r r' : Int32} (e : ∀ j, b < j → j < N → (M j ↔ M' j)) (h : dl_G M N b r) (h' : dl_G M' N b r') : r' = r := by
  rcases h with ⟨hr, h⟩ | ⟨j, hb, hj, hr, hm, hl⟩
  · rcases h' with ⟨hr', h'⟩ | ⟨j', hb', hj', hr', hm', hl'⟩
    · rw [hr, hr']
    · exact absurd ((e j' hb' hj').mpr hm') (h j' hb' hj')
  · rcases h' with ⟨hr', h'⟩ | ⟨j', hb', hj', hr', hm', hl'⟩
    · exact absurd ((e j hb hj).mp hm) (h' j hb hj)
    · have h1 : ¬ j < j' := fun z => hl' j hb z ((e j hb hj).mp hm)
      have h2 : ¬ j' < j := fun z => hl j' hb' z ((e j' hb' hj').mpr hm')
      have h3 : j' = j := by omega
      rw [hr, hr', h3]
theorem dl_Gt {M : Nat → Prop} {N b : Nat} {r : Int32} (hm : M (b + 1)) (hb : b + 1 < N) (hr : r = nI (b + 1)) : dl_G M N b r :=
  Or.inr ⟨b + 1, by omega, hb, hr, hm, fun i h1 h2 => absurd h2 (by omega)⟩
theorem dl_Gf {M : Nat → Prop} {N b : Nat} {r : Int32} (hm : ¬ M (b + 1)) (h : dl_G M N (b + 1) r) : dl_G M N b r := by
  rcases h with ⟨hr, h⟩ | ⟨j, hb, hj, hr, hj2, hl⟩
  · refine Or.inl ⟨hr, fun j h1 h2 => ?_⟩
    by_cases z : j = b + 1
    · rw [z]; exact hm
    · exact h j (by omega) h2
  · refine Or.inr ⟨j, by omega, hj, hr, hj2, fun i h1 h2 => ?_⟩
    by_cases z : i = b + 1
    · rw [z]; exact hm
    · exact hl i (by omega) h2
/-! who is in range, a directory, may be changed -/
def dl_In (N : Nat) (p : Int32) : Prop := ∃ j, j < N ∧ p = nI j
def dl_Dr (N : Nat) (lk : Nat → Int32) (p : Int32) : Prop := ∃ j, j < N ∧ p = nI j ∧ lk j = 2
def dl_Ch (N : Nat) (lk : Nat → Int32) (p : Int32) : Prop := ∃ j, 0 < j ∧ j < N ∧ p = nI j ∧ lk j ≠ 0
theorem dl_In_c {N : Nat} {p : Int32} (hN : N ≤ 2050) (h : ¬ dl_In N p) : p < 0 ∨ (¬ p < 0 ∧ nI N ≤ p) := by
  by_cases a : p < 0
  · exact Or.inl a
  · refine Or.inr ⟨a, ?_⟩
    obtain ⟨j, hj, rfl⟩ := nI_of a
    have h2 : ¬ j < N := fun z => h ⟨j, z, rfl⟩
    exact nI_le (by omega) hj
/-! the chain of parents -/
theorem dl_pig : ∀ (n : Nat) (g : Nat → Nat), (∀ i, i ≤ n → g i < n) → ∃ i j, i < j ∧ j ≤ n ∧ g i = g j := by
  intro n
  induction n with
  | zero => intro g h; exact absurd (h 0 (Nat.le_refl 0)) (Nat.not_lt_zero _)
  | succ n ih =>
    intro g h
    by_cases hx : ∃ i, i ≤ n ∧ g i = g (n + 1)
    · obtain ⟨i, hi, e⟩ := hx
      exact ⟨i, n + 1, by omega, by omega, e⟩
    · have hne : ∀ i, i ≤ n → g i ≠ g (n + 1) := fun i hi e => hx ⟨i, hi, e⟩
      obtain ⟨i, j, hij, hj, e⟩ := ih (fun i => if g i = n then g (n + 1) else g i) (by
        intro i hi
        have h1 := h i (by omega)
        have h2 := h (n + 1) (by omega)
        have h3 := hne i hi
        try dsimp only
        split <;> omega)
      refine ⟨i, j, hij, by omega, ?_⟩
      have hi3 := hne i (by omega)
      have hj3 := hne j hj
      try dsimp only at e
      split at e <;> split at e <;> omega
def dl_it (f : Nat → Nat) (s : Nat) : Nat → Nat
  | 0 => s
  | k + 1 => f (dl_it f s k)
theorem dl_per (f : Nat → Nat) (s a b : Nat) (h : dl_it f s a = dl_it f s b) : ∀ m, dl_it f s (a + m) = dl_it f s (b + m) := by
  intro m
  induction m with
  | zero => exact h
  | succ m ih =>
    show f (dl_it f s (a + m)) = f (dl_it f s (b + m))
    rw [ih]
theorem dl_itlt {f : Nat → Nat} {s n : Nat} (hf : ∀ i, i < n → f i < n) (hs : s < n) : ∀ k, dl_it f s k < n := by
  intro k
  induction k with
  | zero => exact hs
  | succ k ih => exact hf _ ih
theorem dl_it0 {f : Nat → Nat} {s m : Nat} (h0 : f 0 = 0) (h : dl_it f s m = 0) : ∀ k, dl_it f s (m + k) = 0 := by
  intro k
  induction k with
  | zero => exact h
  | succ k ih =>
    show f (dl_it f s (m + k)) = 0
    rw [ih, h0]
/-! member n of a chain in a set of n adds nothing that the members below n have not shown -/
theorem dl_cyc {f : Nat → Nat} {s n t : Nat} (hf : ∀ i, i < n → f i < n) (hs : s < n) (ht : t < n) (h : ∀ k, k < n → dl_it f s k ≠ t) : dl_it f s n ≠ t := by
  obtain ⟨m, rfl⟩ : ∃ m, n = m + 1 := ⟨n - 1, by omega⟩
  obtain ⟨a, b, hab, hb, e⟩ := dl_pig m (fun k => if dl_it f s k = m then t else dl_it f s k) (by
    intro i hi
    have h1 := dl_itlt hf hs i
    have h2 := h i (by omega)
    try dsimp only
    split <;> omega)
  have h2 := h a (by omega)
  have h3 := h b (by omega)
  have e2 : dl_it f s a = dl_it f s b := by
    try dsimp only at e
    split at e <;> split at e <;> omega
  have h4 := dl_per f s a b e2 (m + 1 - b)
  have h5 := h (a + (m + 1 - b)) (by omega)
  have h6 : b + (m + 1 - b) = m + 1 := by omega
  rw [h6] at h4
  rw [← h4]
  exact h5
/-! how many are captured -/
def dl_ct (a : Nat → Int32) (b : Nat) : Nat → Int32
  | 0 => 0
  | n + 1 => if a (b + n) = 1 then dl_ct a b n + 1 else dl_ct a b n
theorem dl_ctc {a a' : Nat → Int32} {b b' : Nat} : ∀ n, (∀ i, i < n → a (b + i) = a' (b' + i)) → dl_ct a b n = dl_ct a' b' n := by
  intro n
  induction n with
  | zero => intro _; rfl
  | succ n ih =>
    intro h
    show (if a (b + n) = 1 then dl_ct a b n + 1 else dl_ct a b n) = (if a' (b' + n) = 1 then dl_ct a' b' n + 1 else dl_ct a' b' n)
    rw [h n (by omega), ih (fun i hi => h i (by omega))]
