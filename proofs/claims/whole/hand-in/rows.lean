section
theorem pk_us {f : Nat → Int32} {k : Nat} {x : Int32} : upd f k x k = x := if_pos rfl
theorem pk_un {f : Nat → Int32} {k j : Nat} {x : Int32} (h : j ≠ k) : upd f k x j = f j := if_neg h
theorem pk_m1 (n : Nat) : nI (n + 1) + (-1) = nI n := by
  rw [← nI_1, Int32.add_assoc, show (1 : Int32) + (-1) = 0 from rfl, Int32.add_zero]
theorem pk_mul (a b : Nat) : nI a * nI b = nI (a * b) := (Int32.ofNat_mul a b).symm
theorem dl_10 : ¬ (1 : Int32) = 0 := by decide
theorem dl_c (a : Nat → Int32) {x : Int32} {m : Nat} (e : x = nI m) (h : m < 2 ^ 31) : a x.toNatClampNeg = a m := by rw [e, nI_clamp h]
theorem dl_v {x : Int32} {m M : Nat} (e : x = nI m) (h : m < M) (hM : M < 2 ^ 31) : vp_in x M := by rw [e]; exact vp_in_nI h hM
theorem dl_u {a : Nat → Int32} {x v w : Int32} {m : Nat} (e : x = nI m) (h : m < 2 ^ 31) (ev : v = w) : upd a x.toNatClampNeg v = upd a m w := by rw [e, nI_clamp h, ev]
theorem dl_e5 (j : Nat) : nI j * 5 = nI (j * 5) := pk_mul j 5
theorem dl_e5p (j w : Nat) : nI j * 5 + nI w = nI (j * 5 + w) := by rw [dl_e5, nI_add]
theorem dl_e16 (d i : Nat) : nI d * 16 + nI i = nI (d * 16 + i) := by
  have h : nI d * 16 = nI (d * 16) := pk_mul d 16
  rw [h, nI_add]
theorem dl_e6 (d i : Nat) : (nI d * 16 + nI i) * 6 = nI ((d * 16 + i) * 6) := by
  rw [dl_e16]
  exact pk_mul _ 6
theorem dl_e6p (d i w : Nat) : (nI d * 16 + nI i) * 6 + nI w = nI ((d * 16 + i) * 6 + w) := by rw [dl_e6, nI_add]
theorem dl_m1 {j : Nat} (h : j < 2 ^ 31) : ¬ nI j = -1 := by
  intro e
  have h1 := nI_toInt h
  rw [e] at h1
  have h2 : (-1 : Int32).toInt = -1 := by decide
  omega
theorem dl_m0 : (-1 : Int32) < 0 := by decide
/-! the first match at or behind b + 1 -/
def dl_G (M : Nat → Prop) (N b : Nat) (r : Int32) : Prop := (r = -1 ∧ ∀ j, b < j → j < N → ¬ M j) ∨ ∃ j, b < j ∧ j < N ∧ r = nI j ∧ M j ∧ ∀ i, b < i → i < j → ¬ M i
theorem dl_Gu {M M' : Nat → Prop} {N b : Nat} {r r' : Int32} (e : ∀ j, b < j → j < N → (M j ↔ M' j)) (h : dl_G M N b r) (h' : dl_G M' N b r') : r' = r := by
  rcases h with ⟨hr, h⟩ | ⟨j, hb, hj, hr, hm, hl⟩
  · rcases h' with ⟨hr', h'⟩ | ⟨j', hb', hj', hr', hm', hl'⟩
    · rw [hr, hr']
    · exact absurd ((e j' hb' hj').mpr hm') (h j' hb' hj')
  · rcases h' with ⟨hr', h'⟩ | ⟨j', hb', hj', hr', hm', hl'⟩
    · exact absurd ((e j hb hj).mp hm) (h' j hb hj)
    · have h1 : ¬ j < j' := fun z => hl' j hb z ((e j hb hj).mp hm)
      have h2 : ¬ j' < j := fun z => hl j' hb' z ((e j' hb' hj').mpr hm')
      have h3 : j' = j := by omega
      rw [hr, hr', h3]
theorem dl_Gt {M : Nat → Prop} {N b : Nat} {r : Int32} (hm : M (b + 1)) (hb : b + 1 < N) (hr : r = nI (b + 1)) : dl_G M N b r :=
  Or.inr ⟨b + 1, by omega, hb, hr, hm, fun i h1 h2 => absurd h2 (by omega)⟩
theorem dl_Gf {M : Nat → Prop} {N b : Nat} {r : Int32} (hm : ¬ M (b + 1)) (h : dl_G M N (b + 1) r) : dl_G M N b r := by
  rcases h with ⟨hr, h⟩ | ⟨j, hb, hj, hr, hj2, hl⟩
  · refine Or.inl ⟨hr, fun j h1 h2 => ?_⟩
    by_cases z : j = b + 1
    · rw [z]; exact hm
    · exact h j (by omega) h2
  · refine Or.inr ⟨j, by omega, hj, hr, hj2, fun i h1 h2 => ?_⟩
    by_cases z : i = b + 1
    · rw [z]; exact hm
    · exact hl i (by omega) h2
/-! who is in range, a directory, may be changed -/
def dl_In (N : Nat) (p : Int32) : Prop := ∃ j, j < N ∧ p = nI j
def dl_Dr (N : Nat) (lk : Nat → Int32) (p : Int32) : Prop := ∃ j, j < N ∧ p = nI j ∧ lk j = 2
def dl_Ch (N : Nat) (lk : Nat → Int32) (p : Int32) : Prop := ∃ j, 0 < j ∧ j < N ∧ p = nI j ∧ lk j ≠ 0
theorem dl_In_c {N : Nat} {p : Int32} (hN : N ≤ 2050) (h : ¬ dl_In N p) : p < 0 ∨ (¬ p < 0 ∧ nI N ≤ p) := by
  by_cases a : p < 0
  · exact Or.inl a
  · refine Or.inr ⟨a, ?_⟩
    obtain ⟨j, hj, rfl⟩ := nI_of a
    have h2 : ¬ j < N := fun z => h ⟨j, z, rfl⟩
    exact nI_le (by omega) hj
/-! the chain of parents -/
theorem dl_pig : ∀ (n : Nat) (g : Nat → Nat), (∀ i, i ≤ n → g i < n) → ∃ i j, i < j ∧ j ≤ n ∧ g i = g j := by
  intro n
  induction n with
  | zero => intro g h; exact absurd (h 0 (Nat.le_refl 0)) (Nat.not_lt_zero _)
  | succ n ih =>
    intro g h
    by_cases hx : ∃ i, i ≤ n ∧ g i = g (n + 1)
    · obtain ⟨i, hi, e⟩ := hx
      exact ⟨i, n + 1, by omega, by omega, e⟩
    · have hne : ∀ i, i ≤ n → g i ≠ g (n + 1) := fun i hi e => hx ⟨i, hi, e⟩
      obtain ⟨i, j, hij, hj, e⟩ := ih (fun i => if g i = n then g (n + 1) else g i) (by
        intro i hi
        have h1 := h i (by omega)
        have h2 := h (n + 1) (by omega)
        have h3 := hne i hi
        try dsimp only
        split <;> omega)
      refine ⟨i, j, hij, by omega, ?_⟩
      have hi3 := hne i (by omega)
      have hj3 := hne j hj
      try dsimp only at e
      split at e <;> split at e <;> omega
def dl_it (f : Nat → Nat) (s : Nat) : Nat → Nat
  | 0 => s
  | k + 1 => f (dl_it f s k)
theorem dl_per (f : Nat → Nat) (s a b : Nat) (h : dl_it f s a = dl_it f s b) : ∀ m, dl_it f s (a + m) = dl_it f s (b + m) := by
  intro m
  induction m with
  | zero => exact h
  | succ m ih =>
    show f (dl_it f s (a + m)) = f (dl_it f s (b + m))
    rw [ih]
theorem dl_itlt {f : Nat → Nat} {s n : Nat} (hf : ∀ i, i < n → f i < n) (hs : s < n) : ∀ k, dl_it f s k < n := by
  intro k
  induction k with
  | zero => exact hs
  | succ k ih => exact hf _ ih
theorem dl_it0 {f : Nat → Nat} {s m : Nat} (h0 : f 0 = 0) (h : dl_it f s m = 0) : ∀ k, dl_it f s (m + k) = 0 := by
  intro k
  induction k with
  | zero => exact h
  | succ k ih =>
    show f (dl_it f s (m + k)) = 0
    rw [ih, h0]
/-! member n of a chain in a set of n adds nothing that the members below n have not shown -/
theorem dl_cyc {f : Nat → Nat} {s n t : Nat} (hf : ∀ i, i < n → f i < n) (hs : s < n) (ht : t < n) (h : ∀ k, k < n → dl_it f s k ≠ t) : dl_it f s n ≠ t := by
  obtain ⟨m, rfl⟩ : ∃ m, n = m + 1 := ⟨n - 1, by omega⟩
  obtain ⟨a, b, hab, hb, e⟩ := dl_pig m (fun k => if dl_it f s k = m then t else dl_it f s k) (by
    intro i hi
    have h1 := dl_itlt hf hs i
    have h2 := h i (by omega)
    try dsimp only
    split <;> omega)
  have h2 := h a (by omega)
  have h3 := h b (by omega)
  have e2 : dl_it f s a = dl_it f s b := by
    try dsimp only at e
    split at e <;> split at e <;> omega
  have h4 := dl_per f s a b e2 (m + 1 - b)
  have h5 := h (a + (m + 1 - b)) (by omega)
  have h6 : b + (m + 1 - b) = m + 1 := by omega
  rw [h6] at h4
  rw [← h4]
  exact h5
/-! how many are captured -/
def dl_ct (a : Nat → Int32) (b : Nat) : Nat → Int32
  | 0 => 0
  | n + 1 => if a (b + n) = 1 then dl_ct a b n + 1 else dl_ct a b n
theorem dl_ctc {a a' : Nat → Int32} {b b' : Nat} : ∀ n, (∀ i, i < n → a (b + i) = a' (b' + i)) → dl_ct a b n = dl_ct a' b' n := by
  intro n
  induction n with
  | zero => intro _; rfl
  | succ n ih =>
    intro h
    show (if a (b + n) = 1 then dl_ct a b n + 1 else dl_ct a b n) = (if a' (b' + n) = 1 then dl_ct a' b' n + 1 else dl_ct a' b' n)
    rw [h n (by omega), ih (fun i hi => h i (by omega))]
end
section
/-! the relation -/
def dl_L (N : Nat) (lk lp ln lc ls yl : Nat → Int32) : Prop := ∀ i, i < N → yl (i * 5) = lk i ∧ yl (i * 5 + 1) = lp i ∧ yl (i * 5 + 2) = ln i ∧ yl (i * 5 + 3) = lc i ∧ yl (i * 5 + 4) = ls i
section
variable {N j : Nat} {v : Int32} {lk lp ln lc ls yl : Nat → Int32}
theorem dl_L0 (h : dl_L N lk lp ln lc ls yl) : dl_L N (upd lk j v) lp ln lc ls (upd yl (j * 5) v) := by
  intro i hi
  obtain ⟨h0, h1, h2, h3, h4⟩ := h i hi
  by_cases z : i = j
  · subst z
    simp (disch := omega) only [pk_un, pk_us, h1, h2, h3, h4, and_self]
  · simp (disch := omega) only [pk_un, h0, h1, h2, h3, h4, and_self]
theorem dl_L1 (h : dl_L N lk lp ln lc ls yl) : dl_L N lk (upd lp j v) ln lc ls (upd yl (j * 5 + 1) v) := by
  intro i hi
  obtain ⟨h0, h1, h2, h3, h4⟩ := h i hi
  by_cases z : i = j
  · subst z
    simp (disch := omega) only [pk_un, pk_us, h0, h2, h3, h4, and_self]
  · simp (disch := omega) only [pk_un, h0, h1, h2, h3, h4, and_self]
theorem dl_L2 (h : dl_L N lk lp ln lc ls yl) : dl_L N lk lp (upd ln j v) lc ls (upd yl (j * 5 + 2) v) := by
  intro i hi
  obtain ⟨h0, h1, h2, h3, h4⟩ := h i hi
  by_cases z : i = j
  · subst z
    simp (disch := omega) only [pk_un, pk_us, h0, h1, h3, h4, and_self]
  · simp (disch := omega) only [pk_un, h0, h1, h2, h3, h4, and_self]
theorem dl_L3 (h : dl_L N lk lp ln lc ls yl) : dl_L N lk lp ln (upd lc j v) ls (upd yl (j * 5 + 3) v) := by
  intro i hi
  obtain ⟨h0, h1, h2, h3, h4⟩ := h i hi
  by_cases z : i = j
  · subst z
    simp (disch := omega) only [pk_un, pk_us, h0, h1, h2, h4, and_self]
  · simp (disch := omega) only [pk_un, h0, h1, h2, h3, h4, and_self]
theorem dl_L4 (h : dl_L N lk lp ln lc ls yl) : dl_L N lk lp ln lc (upd ls j v) (upd yl (j * 5 + 4) v) := by
  intro i hi
  obtain ⟨h0, h1, h2, h3, h4⟩ := h i hi
  by_cases z : i = j
  · subst z
    simp (disch := omega) only [pk_un, pk_us, h0, h1, h2, h3, and_self]
  · simp (disch := omega) only [pk_un, h0, h1, h2, h3, h4, and_self]
end
/-! the tree: the root, parents within, parents of what is in use are directories, a name once in a directory -/
def dl_T (N : Nat) (lk lp ln : Nat → Int32) : Prop := lk 0 = 2 ∧ lp 0 = 0 ∧ (∀ i, i < N → ∃ j, j < N ∧ lp i = nI j) ∧ (∀ i, 0 < i → i < N → lk i ≠ 0 → ∃ j, j < N ∧ lp i = nI j ∧ lk j = 2) ∧ (∀ i j, 0 < i → i < N → 0 < j → j < N → lk i ≠ 0 → lk j ≠ 0 → lp i = lp j → ln i = ln j → i = j)
section
variable {N t q : Nat} {nm kd : Int32} {lk lp ln : Nat → Int32}
theorem dl_Tcreate (h : dl_T N lk lp ln) (h0 : 0 < t) (ht : t < N) (hf : lk t = 0) (hq : q < N) (hd : lk q = 2) (hu : ∀ j, 0 < j → j < N → ¬ (lk j ≠ 0 ∧ lp j = nI q ∧ ln j = nm)) : dl_T N (upd lk t kd) (upd lp t (nI q)) (upd ln t nm) := by
  obtain ⟨a0, a1, a2, a3, a4⟩ := h
  have d2 : ¬ (0 : Int32) = 2 := by decide
  have qt : q ≠ t := by
    intro e
    rw [e, hf] at hd
    exact d2 hd
  refine ⟨?_, ?_, ?_, ?_, ?_⟩
  · rw [pk_un (by omega)]; exact a0
  · rw [pk_un (by omega)]; exact a1
  · intro i hi
    by_cases z : i = t
    · subst z; exact ⟨q, hq, pk_us⟩
    · rw [pk_un z]; exact a2 i hi
  · intro i hi0 hi hk
    by_cases z : i = t
    · subst z
      exact ⟨q, hq, pk_us, by rw [pk_un qt]; exact hd⟩
    · rw [pk_un z] at hk
      obtain ⟨j, hj, e, k2⟩ := a3 i hi0 hi hk
      have jt : j ≠ t := by
        intro e2
        rw [e2, hf] at k2
        exact d2 k2
      exact ⟨j, hj, by rw [pk_un z]; exact e, by rw [pk_un jt]; exact k2⟩
  · intro i j hi0 hi hj0 hj hki hkj e1 e2
    by_cases z : i = t
    · by_cases w : j = t
      · rw [z, w]
      · subst z
        rw [pk_un w] at hkj
        rw [pk_us, pk_un w] at e1 e2
        exact absurd ⟨hkj, e1.symm, e2.symm⟩ (hu j hj0 hj)
    · by_cases w : j = t
      · subst w
        rw [pk_un z] at hki
        rw [pk_us, pk_un z] at e1 e2
        exact absurd ⟨hki, e1, e2⟩ (hu i hi0 hi)
      · rw [pk_un z] at hki
        rw [pk_un w] at hkj
        rw [pk_un z, pk_un w] at e1 e2
        exact a4 i j hi0 hi hj0 hj hki hkj e1 e2
theorem dl_Trename (h : dl_T N lk lp ln) (h0 : 0 < t) (ht : t < N) (hq : q < N) (hd : lk q = 2) (hu : ∀ j, 0 < j → j < N → (lk j ≠ 0 ∧ lp j = nI q ∧ ln j = nm) → j = t) : dl_T N lk (upd lp t (nI q)) (upd ln t nm) := by
  obtain ⟨a0, a1, a2, a3, a4⟩ := h
  refine ⟨a0, ?_, ?_, ?_, ?_⟩
  · rw [pk_un (by omega)]; exact a1
  · intro i hi
    by_cases z : i = t
    · subst z; exact ⟨q, hq, pk_us⟩
    · rw [pk_un z]; exact a2 i hi
  · intro i hi0 hi hk
    by_cases z : i = t
    · subst z; exact ⟨q, hq, pk_us, hd⟩
    · rw [pk_un z]; exact a3 i hi0 hi hk
  · intro i j hi0 hi hj0 hj hki hkj e1 e2
    by_cases z : i = t
    · by_cases w : j = t
      · rw [z, w]
      · subst z
        rw [pk_us, pk_un w] at e1 e2
        exact (hu j hj0 hj ⟨hkj, e1.symm, e2.symm⟩).symm
    · by_cases w : j = t
      · subst w
        rw [pk_us, pk_un z] at e1 e2
        exact hu i hi0 hi ⟨hki, e1, e2⟩
      · rw [pk_un z, pk_un w] at e1 e2
        exact a4 i j hi0 hi hj0 hj hki hkj e1 e2
theorem dl_Tremove (h : dl_T N lk lp ln) (h0 : 0 < t) (hN : N ≤ 16) (ht : t < N) (hu : ∀ j, 0 < j → j < N → ¬ (lk j ≠ 0 ∧ lp j = nI t)) : dl_T N (upd lk t 0) (upd lp t 0) (upd ln t 0) := by
  obtain ⟨a0, a1, a2, a3, a4⟩ := h
  refine ⟨?_, ?_, ?_, ?_, ?_⟩
  · rw [pk_un (by omega)]; exact a0
  · rw [pk_un (by omega)]; exact a1
  · intro i hi
    by_cases z : i = t
    · subst z; exact ⟨0, by omega, pk_us⟩
    · rw [pk_un z]; exact a2 i hi
  · intro i hi0 hi hk
    by_cases z : i = t
    · subst z; exact absurd pk_us hk
    · rw [pk_un z] at hk
      obtain ⟨j, hj, e, k2⟩ := a3 i hi0 hi hk
      have jt : j ≠ t := fun e2 => hu i hi0 hi ⟨hk, by rw [e, e2]⟩
      exact ⟨j, hj, by rw [pk_un z]; exact e, by rw [pk_un jt]; exact k2⟩
  · intro i j hi0 hi hj0 hj hki hkj e1 e2
    by_cases z : i = t
    · subst z; exact absurd pk_us hki
    · by_cases w : j = t
      · subst w; exact absurd pk_us hkj
      · rw [pk_un z] at hki
        rw [pk_un w] at hkj
        rw [pk_un z, pk_un w] at e1 e2
        exact a4 i j hi0 hi hj0 hj hki hkj e1 e2
end
/-! the dumps: entries of taken dumps alike, the count, what is not captured is 0; entries of later dumps untouched -/
def dl_E1 (p : Nat) (ek ep en ec es eg ye : Nat → Int32) : Prop := ye (p * 6) = ek p ∧ ye (p * 6 + 1) = ep p ∧ ye (p * 6 + 2) = en p ∧ ye (p * 6 + 3) = ec p ∧ ye (p * 6 + 4) = es p ∧ ye (p * 6 + 5) = eg p ∧ (eg p ≠ 1 → ec p = 0 ∧ es p = 0)
def dl_E (N T : Nat) (dc ek ep en ec es eg ye : Nat → Int32) : Prop := (∀ d, d < T → dc d = dl_ct eg (d * 16) N ∧ ∀ i, i < N → dl_E1 (d * 16 + i) ek ep en ec es eg ye) ∧ (∀ p, T * 16 ≤ p → ec p = 0 ∧ es p = 0 ∧ eg p = 0)
def dl_R (N D T : Nat) (lk lp ln lc ls dc ek ep en ec es eg rk rp rn rc rs yl yr ye : Nat → Int32) : Prop := 4 ≤ N ∧ N ≤ 16 ∧ D ≤ 8 ∧ T ≤ D ∧ dl_L N lk lp ln lc ls yl ∧ dl_T N lk lp ln ∧ dl_E N T dc ek ep en ec es eg ye ∧ dl_L N rk rp rn rc rs yr
def i_Rel (_ : Nat) (u : SX) (v : SY) : Prop := ∃ (N D T : Nat) (ck sa : Int32) (lk lp ln lc ls dl ds db dc dd ek ep en ec es eg rk rp rn rc rs yl yr ye : Nat → Int32), u = (nI N, nI D, ck, nI T, sa, lk, lp, ln, lc, ls, dl, ds, db, dc, dd, ek, ep, en, ec, es, eg, rk, rp, rn, rc, rs) ∧ v = (nI N, nI D, ck, sa, nI T, yl, yr, ye, dl, ds, db, dd) ∧ dl_R N D T lk lp ln lc ls dc ek ep en ec es eg rk rp rn rc rs yl yr ye
section
variable {N D T : Nat} {ck sa : Int32} {lk lp ln lc ls dl ds db dc dd ek ep en ec es eg rk rp rn rc rs yl yr ye : Nat → Int32}
theorem dl_mk {k : Nat} (h : dl_R N D T lk lp ln lc ls dc ek ep en ec es eg rk rp rn rc rs yl yr ye) : i_Rel k (nI N, nI D, ck, nI T, sa, lk, lp, ln, lc, ls, dl, ds, db, dc, dd, ek, ep, en, ec, es, eg, rk, rp, rn, rc, rs) (nI N, nI D, ck, sa, nI T, yl, yr, ye, dl, ds, db, dd) := ⟨N, D, T, ck, sa, lk, lp, ln, lc, ls, dl, ds, db, dc, dd, ek, ep, en, ec, es, eg, rk, rp, rn, rc, rs, yl, yr, ye, rfl, rfl, h⟩
end
theorem i_up {k : Nat} {u : SX} {v : SY} (h : i_Rel k u v) : i_Rel (k + 4) u v := h
end
section
/-! the component: what its inner methods answer, over a general post -/
section
variable {N D T : Nat} {ck sa : Int32} {lk lp ln lc ls dl ds db dc dd ek ep en ec es eg rk rp rn rc rs : Nat → Int32} {post : Int32 → Prop} {p dir nm : Int32} {j : Nat}
theorem xi_t (hN : N ≤ 16) (hj : j < N) (hp : post 1) : wpX_isInode post (nI N, nI D, ck, nI T, sa, lk, lp, ln, lc, ls, dl, ds, db, dc, dd, ek, ep, en, ec, es, eg, rk, rp, rn, rc, rs) (nI j) :=
  br_f (nI_pos (by omega)) (br_f (nI_ge hj (by omega)) hp)
theorem xi_f (hN : N ≤ 16) (h : ¬ dl_In N p) (hp : post 0) : wpX_isInode post (nI N, nI D, ck, nI T, sa, lk, lp, ln, lc, ls, dl, ds, db, dc, dd, ek, ep, en, ec, es, eg, rk, rp, rn, rc, rs) p := by
  rcases dl_In_c (by omega) h with a | ⟨a, b⟩
  · exact br_t a hp
  · exact br_f a (br_t b hp)
theorem xk_t (hT : T ≤ 8) (hj : j < T) (hp : post 1) : wpX_isTaken post (nI N, nI D, ck, nI T, sa, lk, lp, ln, lc, ls, dl, ds, db, dc, dd, ek, ep, en, ec, es, eg, rk, rp, rn, rc, rs) (nI j) :=
  br_f (nI_pos (by omega)) (br_f (nI_ge hj (by omega)) hp)
theorem xk_f (hT : T ≤ 8) (h : ¬ dl_In T p) (hp : post 0) : wpX_isTaken post (nI N, nI D, ck, nI T, sa, lk, lp, ln, lc, ls, dl, ds, db, dc, dd, ek, ep, en, ec, es, eg, rk, rp, rn, rc, rs) p := by
  rcases dl_In_c (by omega) h with a | ⟨a, b⟩
  · exact br_t a hp
  · exact br_f a (br_t b hp)
theorem xv_t (hj : j < 10) (hp : post 1) : wpX_isLevel post (nI j) :=
  br_f (nI_pos (by omega)) (br_f (nI_ge (b := 10) hj (by decide)) hp)
theorem xv_f (h : ¬ dl_In 10 p) (hp : post 0) : wpX_isLevel post p := by
  rcases dl_In_c (by omega) h with a | ⟨a, b⟩
  · exact br_t a hp
  · exact br_f a (br_t b hp)
theorem xn_t (a : ¬ p < 1) (b : ¬ 255 < p) (hp : post 1) : wpX_isName post p := br_f a (br_f b hp)
theorem xn_f (h : ¬ (¬ p < 1 ∧ ¬ 255 < p)) (hp : post 0) : wpX_isName post p := by
  by_cases a : p < 1
  · exact br_t a hp
  · by_cases b : 255 < p
    · exact br_f a (br_t b hp)
    · exact absurd ⟨a, b⟩ h
theorem xd_t (hN : N ≤ 16) (hj : j < N) (hk : lk j = 2) (hp : post 1) : wpX_isLiveDirectory post (nI N, nI D, ck, nI T, sa, lk, lp, ln, lc, ls, dl, ds, db, dc, dd, ek, ep, en, ec, es, eg, rk, rp, rn, rc, rs) (nI j) := by
  unfold wpX_isLiveDirectory
  refine xi_t hN hj ?_
  exact br_f dl_10 ⟨vp_in_nI (by omega) (by omega), br_t ((dl_c lk rfl (by omega)).trans hk) hp⟩
theorem xd_f (hN : N ≤ 16) (h : ¬ dl_Dr N lk p) (hp : post 0) : wpX_isLiveDirectory post (nI N, nI D, ck, nI T, sa, lk, lp, ln, lc, ls, dl, ds, db, dc, dd, ek, ep, en, ec, es, eg, rk, rp, rn, rc, rs) p := by
  unfold wpX_isLiveDirectory
  by_cases a : dl_In N p
  · obtain ⟨j, hj, rfl⟩ := a
    refine xi_t hN hj ?_
    exact br_f dl_10 ⟨vp_in_nI (by omega) (by omega), br_f (fun z => h ⟨j, hj, rfl, (dl_c lk rfl (by omega)).symm.trans z⟩) hp⟩
  · exact xi_f hN a (br_t rfl hp)
theorem xc_t (hN : N ≤ 16) (h0 : 0 < j) (hj : j < N) (hk : lk j ≠ 0) (hp : post 1) : wpX_isChangeable post (nI N, nI D, ck, nI T, sa, lk, lp, ln, lc, ls, dl, ds, db, dc, dd, ek, ep, en, ec, es, eg, rk, rp, rn, rc, rs) (nI j) := by
  unfold wpX_isChangeable
  refine xi_t hN hj ?_
  exact br_f dl_10 (br_f (nI_ne0 h0 (by omega)) ⟨vp_in_nI (by omega) (by omega), br_f (fun z => hk ((dl_c lk rfl (by omega)).symm.trans z)) hp⟩)
theorem xc_f (hN : N ≤ 16) (h : ¬ dl_Ch N lk p) (hp : post 0) : wpX_isChangeable post (nI N, nI D, ck, nI T, sa, lk, lp, ln, lc, ls, dl, ds, db, dc, dd, ek, ep, en, ec, es, eg, rk, rp, rn, rc, rs) p := by
  unfold wpX_isChangeable
  by_cases a : dl_In N p
  · obtain ⟨j, hj, rfl⟩ := a
    refine xi_t hN hj ?_
    refine br_f dl_10 ?_
    by_cases z : j = 0
    · subst z
      exact br_t nI_0 hp
    · have hk : lk j = 0 := Classical.byContradiction fun w => h ⟨j, by omega, hj, rfl, w⟩
      exact br_f (nI_ne0 (by omega) (by omega)) ⟨vp_in_nI (by omega) (by omega), br_t ((dl_c lk rfl (by omega)).trans hk) hp⟩
  · exact xi_f hN a (br_t rfl hp)
theorem xw_t {b : Int32} (hN : N ≤ 16) (h0 : 0 < j) (hj : j < N) (hk : lk j ≠ 0) (hs : ¬ ls j ≤ b) (hp : post 1) : wpX_isNewerThan post (nI N, nI D, ck, nI T, sa, lk, lp, ln, lc, ls, dl, ds, db, dc, dd, ek, ep, en, ec, es, eg, rk, rp, rn, rc, rs) (nI j) b := by
  unfold wpX_isNewerThan
  refine xc_t hN h0 hj hk ?_
  exact br_f dl_10 ⟨vp_in_nI (by omega) (by omega), br_f (by rw [dl_c ls rfl (by omega)]; exact hs) hp⟩
theorem xw_f {b : Int32} (hN : N ≤ 16) (hj : j < N) (h : ¬ (0 < j ∧ lk j ≠ 0 ∧ ¬ ls j ≤ b)) (hp : post 0) : wpX_isNewerThan post (nI N, nI D, ck, nI T, sa, lk, lp, ln, lc, ls, dl, ds, db, dc, dd, ek, ep, en, ec, es, eg, rk, rp, rn, rc, rs) (nI j) b := by
  unfold wpX_isNewerThan
  by_cases a : 0 < j ∧ lk j ≠ 0
  · have hs : ls j ≤ b := Classical.byContradiction fun w => h ⟨a.1, a.2, w⟩
    refine xc_t hN a.1 hj a.2 ?_
    exact br_f dl_10 ⟨vp_in_nI (by omega) (by omega), br_t (by rw [dl_c ls rfl (by omega)]; exact hs) hp⟩
  · refine xc_f hN ?_ (br_t rfl hp)
    intro ⟨i, hi0, hi, e, hk⟩
    have e2 : j = i := (nI_eq (by omega) (by omega)).mp e
    subst e2
    exact a ⟨hi0, hk⟩
theorem xe_t (hN : N ≤ 16) (h0 : 0 < j) (hj : j < N) (hk : lk j ≠ 0) (hd : lp j = dir) (hp : post 1) : wpX_isEntryOf post (nI N, nI D, ck, nI T, sa, lk, lp, ln, lc, ls, dl, ds, db, dc, dd, ek, ep, en, ec, es, eg, rk, rp, rn, rc, rs) (nI j) dir :=
  br_f (nI_ne0 h0 (by omega)) ⟨vp_in_nI (by omega) (by omega), br_f (fun z => hk ((dl_c lk rfl (by omega)).symm.trans z)) ⟨vp_in_nI (by omega) (by omega), br_t ((dl_c lp rfl (by omega)).trans hd) hp⟩⟩
theorem xe_f (hN : N ≤ 16) (hj : j < N) (h : ¬ (0 < j ∧ lk j ≠ 0 ∧ lp j = dir)) (hp : post 0) : wpX_isEntryOf post (nI N, nI D, ck, nI T, sa, lk, lp, ln, lc, ls, dl, ds, db, dc, dd, ek, ep, en, ec, es, eg, rk, rp, rn, rc, rs) (nI j) dir := by
  by_cases z : j = 0
  · subst z
    exact br_t nI_0 hp
  · by_cases hk : lk j = 0
    · exact br_f (nI_ne0 (by omega) (by omega)) ⟨vp_in_nI (by omega) (by omega), br_t ((dl_c lk rfl (by omega)).trans hk) hp⟩
    · exact br_f (nI_ne0 (by omega) (by omega)) ⟨vp_in_nI (by omega) (by omega), br_f (fun z => hk ((dl_c lk rfl (by omega)).symm.trans z)) ⟨vp_in_nI (by omega) (by omega), br_f (fun w => h ⟨by omega, hk, (dl_c lp rfl (by omega)).symm.trans w⟩) hp⟩⟩
theorem xf_l (hN : N ≤ 16) (hp : ∀ r, dl_G (fun j => lk j ≠ 0 ∧ lp j = dir ∧ ln j = nm) N 0 r → post r) : ∀ d j : Nat, j + d = N → (∀ i, 0 < i → i < j → ¬ (lk i ≠ 0 ∧ lp i = dir ∧ ln i = nm)) → wX_findEntry_2 post dir nm (nI N) (nI D) ck (nI T) sa lk lp ln lc ls dl ds db dc dd ek ep en ec es eg rk rp rn rc rs (d + 1) (nI j) := by
  intro d
  induction d with
  | zero =>
    intro j hj h
    exact br_t (nI_le (by omega) (by omega)) (hp _ (Or.inl ⟨rfl, fun i a b => h i a (by omega)⟩))
  | succ d ih =>
    intro j hj h
    have hi : ¬ nI N ≤ nI j := nI_ge (by omega) (by omega)
    have nx : ¬ (0 < j ∧ lk j ≠ 0 ∧ lp j = dir ∧ ln j = nm) → ∀ i, 0 < i → i < j + 1 → ¬ (lk i ≠ 0 ∧ lp i = dir ∧ ln i = nm) := by
      intro hn i a b
      by_cases z : i = j
      · subst z
        exact fun w => hn ⟨a, w⟩
      · exact h i a (by omega)
    by_cases he : 0 < j ∧ lk j ≠ 0 ∧ lp j = dir
    · obtain ⟨h0, hk, hd⟩ := he
      refine br_f hi (xe_t hN h0 (by omega) hk hd ?_)
      refine br_f dl_10 ⟨vp_in_nI (by omega) (by omega), ?_⟩
      by_cases hn : ln j = nm
      · exact br_t ((dl_c ln rfl (by omega)).trans hn) (hp _ (Or.inr ⟨j, h0, by omega, rfl, ⟨hk, hd, hn⟩, h⟩))
      · exact br_f (fun z => hn ((dl_c ln rfl (by omega)).symm.trans z)) (nm_r (nI_1 j) (ih (j + 1) (by omega) (nx fun w => hn w.2.2.2)))
    · refine br_f hi (xe_f hN (by omega) he ?_)
      exact br_t rfl (nm_r (nI_1 j) (ih (j + 1) (by omega) (nx fun w => he ⟨w.1, w.2.1, w.2.2.1⟩)))
theorem xf_a (hN : N ≤ 16) (hp : ∀ r, dl_G (fun j => lk j ≠ 0 ∧ lp j = dir ∧ ln j = nm) N 0 r → post r) : wpX_findEntry post (nI N, nI D, ck, nI T, sa, lk, lp, ln, lc, ls, dl, ds, db, dc, dd, ek, ep, en, ec, es, eg, rk, rp, rn, rc, rs) dir nm :=
  ⟨N + 1, xf_l hN hp N 0 (by omega) (fun i _ b => absurd b (by omega))⟩
theorem xh_l (hN : N ≤ 16) (hp1 : (∃ i, 0 < i ∧ i < N ∧ lk i ≠ 0 ∧ lp i = dir) → post 1) (hp0 : (∀ i, 0 < i → i < N → ¬ (lk i ≠ 0 ∧ lp i = dir)) → post 0) : ∀ d j : Nat, j + d = N → (∀ i, 0 < i → i < j → ¬ (lk i ≠ 0 ∧ lp i = dir)) → wX_hasEntries_2 post dir (nI N) (nI D) ck (nI T) sa lk lp ln lc ls dl ds db dc dd ek ep en ec es eg rk rp rn rc rs (d + 1) (nI j) := by
  intro d
  induction d with
  | zero =>
    intro j hj h
    exact br_t (nI_le (by omega) (by omega)) (hp0 fun i a b => h i a (by omega))
  | succ d ih =>
    intro j hj h
    have hi : ¬ nI N ≤ nI j := nI_ge (by omega) (by omega)
    by_cases he : 0 < j ∧ lk j ≠ 0 ∧ lp j = dir
    · obtain ⟨h0, hk, hd⟩ := he
      refine br_f hi (xe_t hN h0 (by omega) hk hd ?_)
      exact br_f dl_10 (hp1 ⟨j, h0, by omega, hk, hd⟩)
    · refine br_f hi (xe_f hN (by omega) he ?_)
      refine br_t rfl (nm_r (nI_1 j) (ih (j + 1) (by omega) ?_))
      intro i a b
      by_cases z : i = j
      · subst z
        exact fun w => he ⟨a, w⟩
      · exact h i a (by omega)
theorem xh_a (hN : N ≤ 16) (hp1 : (∃ i, 0 < i ∧ i < N ∧ lk i ≠ 0 ∧ lp i = dir) → post 1) (hp0 : (∀ i, 0 < i → i < N → ¬ (lk i ≠ 0 ∧ lp i = dir)) → post 0) : wpX_hasEntries post (nI N, nI D, ck, nI T, sa, lk, lp, ln, lc, ls, dl, ds, db, dc, dd, ek, ep, en, ec, es, eg, rk, rp, rn, rc, rs) dir :=
  ⟨N + 1, xh_l hN hp1 hp0 N 0 (by omega) (fun i _ b => absurd b (by omega))⟩
theorem xl_l (hN : N ≤ 16) (h2 : lk 0 = 2) (hp : ∀ r, dl_G (fun j => lk j = 0) N 0 r → post r) : ∀ d j : Nat, j + d = N → (∀ i, 0 < i → i < j → ¬ lk i = 0) → wX_lowestFreeInode_2 post (nI N) (nI D) ck (nI T) sa lk lp ln lc ls dl ds db dc dd ek ep en ec es eg rk rp rn rc rs (d + 1) (nI j) := by
  intro d
  induction d with
  | zero =>
    intro j hj h
    exact br_t (nI_le (by omega) (by omega)) (hp _ (Or.inl ⟨rfl, fun i a b => h i a (by omega)⟩))
  | succ d ih =>
    intro j hj h
    have hi : ¬ nI N ≤ nI j := nI_ge (by omega) (by omega)
    by_cases hk : lk j = 0
    · have h0 : 0 < j := by
        refine Nat.pos_of_ne_zero fun e => ?_
        rw [e, h2] at hk
        exact absurd hk (by decide)
      exact br_f hi ⟨vp_in_nI (by omega) (by omega), br_t ((dl_c lk rfl (by omega)).trans hk) (hp _ (Or.inr ⟨j, h0, by omega, rfl, hk, h⟩))⟩
    · refine br_f hi ⟨vp_in_nI (by omega) (by omega), br_f (fun z => hk ((dl_c lk rfl (by omega)).symm.trans z)) (nm_r (nI_1 j) (ih (j + 1) (by omega) ?_))⟩
      intro i a b
      by_cases z : i = j
      · subst z
        exact hk
      · exact h i a (by omega)
theorem xl_a (hN : N ≤ 16) (h2 : lk 0 = 2) (hp : ∀ r, dl_G (fun j => lk j = 0) N 0 r → post r) : wpX_lowestFreeInode post (nI N, nI D, ck, nI T, sa, lk, lp, ln, lc, ls, dl, ds, db, dc, dd, ek, ep, en, ec, es, eg, rk, rp, rn, rc, rs) :=
  ⟨N + 1, xl_l hN h2 hp N 0 (by omega) (fun i _ b => absurd b (by omega))⟩
theorem xb_l {f : Nat → Nat} {s t : Nat} (hN : N ≤ 16) (hf : ∀ i, i < N → f i < N) (hl : ∀ i, i < N → lp i = nI (f i)) (hs : s < N) (ht : t < N) (hp1 : (∃ k, k < N ∧ dl_it f s k = t) → post 1) (hp0 : (∀ k, k < N → dl_it f s k ≠ t) → post 0) : ∀ d m : Nat, m + d = N → (∀ k, k < m → dl_it f s k ≠ t) → wX_isAtOrBelow_5 post (nI t) (nI N) (nI D) ck (nI T) sa lk lp ln lc ls dl ds db dc dd ek ep en ec es eg rk rp rn rc rs (d + 1) (nI (dl_it f s m)) (nI m) := by
  intro d
  induction d with
  | zero =>
    intro m hm h
    exact br_t (nI_le (by omega) (by omega)) (hp0 fun k hk => h k (by omega))
  | succ d ih =>
    intro m hm h
    have hi : ¬ nI N ≤ nI m := nI_ge (by omega) (by omega)
    have hx := dl_itlt hf hs m
    by_cases z : dl_it f s m = t
    · exact br_f hi (br_t (congrArg nI z) (hp1 ⟨m, by omega, z⟩))
    · refine br_f hi (br_f (fun w => z ((nI_eq (by omega) (by omega)).mp w)) ⟨vp_in_nI (by omega) (by omega), nm_r ((dl_c lp rfl (by omega)).trans (hl _ hx)) (nm_r (nI_1 m) (ih (m + 1) (by omega) ?_))⟩)
      intro k hk
      by_cases y : k = m
      · rw [y]; exact z
      · exact h k (by omega)
theorem xb_a {f : Nat → Nat} {s t : Nat} (hN : N ≤ 16) (hf : ∀ i, i < N → f i < N) (hl : ∀ i, i < N → lp i = nI (f i)) (hs : s < N) (ht : t < N) (hp1 : (∃ k, k < N ∧ dl_it f s k = t) → post 1) (hp0 : (∀ k, k < N → dl_it f s k ≠ t) → post 0) : wpX_isAtOrBelow post (nI N, nI D, ck, nI T, sa, lk, lp, ln, lc, ls, dl, ds, db, dc, dd, ek, ep, en, ec, es, eg, rk, rp, rn, rc, rs) (nI s) (nI t) :=
  ⟨N + 1, xb_l hN hf hl hs ht hp1 hp0 N 0 (by omega) (fun k hk => absurd hk (by omega))⟩
theorem xq_a (w : Nat) (hw : w ≤ 4) {a b c d e r : Int32} (hr : (w = 0 ∧ r = a) ∨ (w = 1 ∧ r = b) ∨ (w = 2 ∧ r = c) ∨ (w = 3 ∧ r = d) ∨ (w = 4 ∧ r = e)) (hp : post r) : wpX_chooseField post (nI w) a b c d e := by
  rcases hr with ⟨rfl, rfl⟩ | ⟨rfl, rfl⟩ | ⟨rfl, rfl⟩ | ⟨rfl, rfl⟩ | ⟨rfl, rfl⟩
  · exact br_f (by decide +kernel) (br_f (by decide +kernel) (br_t rfl hp))
  · exact br_f (by decide +kernel) (br_f (by decide +kernel) (br_f (by decide +kernel) (br_t rfl hp)))
  · exact br_f (by decide +kernel) (br_f (by decide +kernel) (br_f (by decide +kernel) (br_f (by decide +kernel) (br_t rfl hp))))
  · exact br_f (by decide +kernel) (br_f (by decide +kernel) (br_f (by decide +kernel) (br_f (by decide +kernel) (br_f (by decide +kernel) (br_t rfl hp)))))
  · exact br_f (by decide +kernel) (br_f (by decide +kernel) (br_f (by decide +kernel) (br_f (by decide +kernel) (br_f (by decide +kernel) (br_f (by decide +kernel) (br_t rfl hp))))))
theorem xq_f {a b c d e : Int32} (h : p < 0 ∨ (¬ p < 0 ∧ 4 < p)) (hp : post (-1)) : wpX_chooseField post p a b c d e := by
  rcases h with h | ⟨h, h2⟩
  · exact br_t h hp
  · exact br_f h (br_t h2 hp)
end
end
section
/-! the reference: its inner methods and its loops, over a general post -/
section
variable {N D T : Nat} {ck sa : Int32} {yl yr ye dl ds db dd : Nat → Int32} {post : Int32 → Prop} {p dir nm sk : Int32} {j : Nat}
theorem yd_t (hN : N ≤ 16) (hj : j < N) (hk : yl (j * 5) = 2) (hp : post 1) : wpY_inUseDir post (nI N, nI D, ck, sa, nI T, yl, yr, ye, dl, ds, db, dd) (nI j) :=
  br_f (nI_pos (by omega)) (br_f (nI_ge hj (by omega)) ⟨dl_v (dl_e5 j) (by omega) (by omega), br_t ((dl_c yl (dl_e5 j) (by omega)).trans hk) hp⟩)
theorem yd_f (hN : N ≤ 16) (h : ¬ ∃ j, j < N ∧ p = nI j ∧ yl (j * 5) = 2) (hp : post 0) : wpY_inUseDir post (nI N, nI D, ck, sa, nI T, yl, yr, ye, dl, ds, db, dd) p := by
  by_cases a : dl_In N p
  · obtain ⟨j, hj, rfl⟩ := a
    exact br_f (nI_pos (by omega)) (br_f (nI_ge hj (by omega)) ⟨dl_v (dl_e5 j) (by omega) (by omega), br_f (fun z => h ⟨j, hj, rfl, (dl_c yl (dl_e5 j) (by omega)).symm.trans z⟩) hp⟩)
  · rcases dl_In_c (by omega) a with a | ⟨a, b⟩
    · exact br_t a hp
    · exact br_f a (br_t b hp)
def dl_Y (yl : Nat → Int32) (dir nm sk : Int32) (j : Nat) : Prop := nI j ≠ sk ∧ yl (j * 5) ≠ 0 ∧ yl (j * 5 + 1) = dir ∧ yl (j * 5 + 2) = nm
theorem yf_l (hN : N ≤ 16) (hp : ∀ r, dl_G (dl_Y yl dir nm sk) N 0 r → post r) : ∀ d j : Nat, j + d = N → 0 < j → (∀ i, 0 < i → i < j → ¬ dl_Y yl dir nm sk i) → wY_findEntry_3 post dir nm sk (nI N) (nI D) ck sa (nI T) yl yr ye dl ds db dd (d + 1) (nI j) := by
  intro d
  induction d with
  | zero =>
    intro j hj _ h
    exact br_t (nI_le (by omega) (by omega)) (hp _ (Or.inl ⟨rfl, fun i a b => h i a (by omega)⟩))
  | succ d ih =>
    intro j hj h0 h
    have hi : ¬ nI N ≤ nI j := nI_ge (by omega) (by omega)
    have nx : ¬ dl_Y yl dir nm sk j → wY_findEntry_3 post dir nm sk (nI N) (nI D) ck sa (nI T) yl yr ye dl ds db dd (d + 1) (nI (j + 1)) := by
      intro hn
      refine ih (j + 1) (by omega) (by omega) ?_
      intro i a b
      by_cases z : i = j
      · rw [z]; exact hn
      · exact h i a (by omega)
    by_cases hs : nI j = sk
    · exact br_f hi (br_t hs (nm_r (nI_1 j) (nx fun w => w.1 hs)))
    · by_cases hk : yl (j * 5) = 0
      · exact br_f hi (br_f hs ⟨dl_v (dl_e5 j) (by omega) (by omega), br_t ((dl_c yl (dl_e5 j) (by omega)).trans hk) (nm_r (nI_1 j) (nx fun w => w.2.1 hk))⟩)
      · by_cases hd : yl (j * 5 + 1) = dir
        · by_cases hn : yl (j * 5 + 2) = nm
          · exact br_f hi (br_f hs ⟨dl_v (dl_e5 j) (by omega) (by omega), br_f (fun z => hk ((dl_c yl (dl_e5 j) (by omega)).symm.trans z)) ⟨dl_v (dl_e5p j 1) (by omega) (by omega), br_t ((dl_c yl (dl_e5p j 1) (by omega)).trans hd) ⟨dl_v (dl_e5p j 2) (by omega) (by omega), br_t ((dl_c yl (dl_e5p j 2) (by omega)).trans hn) (hp _ (Or.inr ⟨j, h0, by omega, rfl, ⟨hs, hk, hd, hn⟩, h⟩))⟩⟩⟩)
          · exact br_f hi (br_f hs ⟨dl_v (dl_e5 j) (by omega) (by omega), br_f (fun z => hk ((dl_c yl (dl_e5 j) (by omega)).symm.trans z)) ⟨dl_v (dl_e5p j 1) (by omega) (by omega), br_t ((dl_c yl (dl_e5p j 1) (by omega)).trans hd) ⟨dl_v (dl_e5p j 2) (by omega) (by omega), br_f (fun z => hn ((dl_c yl (dl_e5p j 2) (by omega)).symm.trans z)) (nm_r (nI_1 j) (nx fun w => hn w.2.2.2))⟩⟩⟩)
        · exact br_f hi (br_f hs ⟨dl_v (dl_e5 j) (by omega) (by omega), br_f (fun z => hk ((dl_c yl (dl_e5 j) (by omega)).symm.trans z)) ⟨dl_v (dl_e5p j 1) (by omega) (by omega), br_f (fun z => hd ((dl_c yl (dl_e5p j 1) (by omega)).symm.trans z)) (nm_r (nI_1 j) (nx fun w => hd w.2.2.1))⟩⟩)
theorem yf_a (hN : N ≤ 16) (h4 : 4 ≤ N) (hp : ∀ r, dl_G (dl_Y yl dir nm sk) N 0 r → post r) : wpY_findEntry post (nI N, nI D, ck, sa, nI T, yl, yr, ye, dl, ds, db, dd) dir nm sk :=
  ⟨(N - 1) + 1, yf_l hN hp (N - 1) 1 (by omega) (by omega) (fun i a b => absurd b (by omega))⟩
end
section
variable {N D T : Nat} {ck sa : Int32} {yl yr ye dl ds db dd : Nat → Int32} {post : Int32 → SY → Prop} {x1 x2 x3 : Int32}
/-! create: the lowest free inode, looked for from above -/
def dl_P5 (yl : Nat → Int32) (j : Nat) (a b c d e : Int32) : Nat → Int32 := upd (upd (upd (upd (upd yl (j * 5) a) (j * 5 + 1) b) (j * 5 + 2) c) (j * 5 + 3) d) (j * 5 + 4) e
theorem yc_l (hN : N ≤ 16) (hp0 : (∀ j, 0 < j → j < N → ¬ yl (j * 5) = 0) → post (-5) (nI N, nI D, ck, sa, nI T, yl, yr, ye, dl, ds, db, dd)) (hp1 : ∀ j, 0 < j → j < N → yl (j * 5) = 0 → (∀ i, 0 < i → i < j → ¬ yl (i * 5) = 0) → post (nI j) (nI N, nI D, ck + 1, sa, nI T, dl_P5 yl j x3 x1 x2 0 (ck + 1), yr, ye, dl, ds, db, dd)) : ∀ (i : Nat) (r : Int32), i < N → dl_G (fun j => yl (j * 5) = 0) N i r → wY_create_62 post x1 x2 x3 (nI N) (nI D) ck sa (nI T) yl yr ye dl ds db dd (i + 1) r (nI i) := by
  intro i
  induction i with
  | zero =>
    intro r _ h
    have z1 : nI 0 < 1 := by decide +kernel
    rcases h with ⟨rfl, h⟩ | ⟨j, h0, hj, rfl, hm, hl⟩
    · exact br_t z1 (br_f (by decide) (hp0 h))
    · exact br_t z1 (br_t (nI_pos' (by omega)) (nm_e ⟨dl_v (dl_e5 j) (by omega) (by omega), nm_r (dl_u (dl_e5 j) (by omega) rfl) ⟨dl_v (dl_e5p j 1) (by omega) (by omega), nm_r (dl_u (dl_e5p j 1) (by omega) rfl) ⟨dl_v (dl_e5p j 2) (by omega) (by omega), nm_r (dl_u (dl_e5p j 2) (by omega) rfl) ⟨dl_v (dl_e5p j 3) (by omega) (by omega), nm_r (dl_u (dl_e5p j 3) (by omega) rfl) ⟨dl_v (dl_e5p j 4) (by omega) (by omega), nm_r (dl_u (dl_e5p j 4) (by omega) rfl) (hp1 j h0 hj hm hl)⟩⟩⟩⟩⟩))
  | succ i ih =>
    intro r hi h
    have z1 : ¬ nI (i + 1) < 1 := nI_nlt (b := 1) (by omega) (by omega)
    by_cases hk : yl ((i + 1) * 5) = 0
    · exact br_f z1 ⟨dl_v (dl_e5 (i + 1)) (by omega) (by omega), br_t ((dl_c yl (dl_e5 (i + 1)) (by omega)).trans hk) (nm_r (pk_m1 i) (ih _ (by omega) (dl_Gt hk hi rfl)))⟩
    · exact br_f z1 ⟨dl_v (dl_e5 (i + 1)) (by omega) (by omega), br_f (fun z => hk ((dl_c yl (dl_e5 (i + 1)) (by omega)).symm.trans z)) (nm_r (pk_m1 i) (ih _ (by omega) (dl_Gf hk h)))⟩
/-! remove: five zeros, and the search for entries -/
theorem yz_s {t f n : Nat} (ht : t < 16) (hf : f < 5) (h : wY_remove_85 post (nI t) (nI N) (nI D) ck sa (nI T) n (nI (f + 1)) (upd yl (t * 5 + f) 0) yr ye dl ds db dd) : wY_remove_85 post (nI t) (nI N) (nI D) ck sa (nI T) (n + 1) (nI f) yl yr ye dl ds db dd :=
  br_f (nI_ge (b := 5) hf (by decide)) ⟨dl_v (dl_e5p t f) (by omega) (by omega), nm_r (dl_u (dl_e5p t f) (by omega) rfl) (nm_r (nI_1 f) h)⟩
theorem yz_e {t n : Nat} (h : post 0 (nI N, nI D, ck, sa, nI T, yl, yr, ye, dl, ds, db, dd)) : wY_remove_85 post (nI t) (nI N) (nI D) ck sa (nI T) (n + 1) (nI 5) yl yr ye dl ds db dd :=
  br_t (nI_le (a := 5) (by omega) (by decide)) h
theorem yz_a {t : Nat} (ht : t < 16) (h : post 0 (nI N, nI D, ck, sa, nI T, dl_P5 yl t 0 0 0 0 0, yr, ye, dl, ds, db, dd)) : ∃ n, wY_remove_85 post (nI t) (nI N) (nI D) ck sa (nI T) n 0 yl yr ye dl ds db dd :=
  ⟨6, yz_s (f := 0) ht (by omega) (yz_s (f := 1) ht (by omega) (yz_s (f := 2) ht (by omega) (yz_s (f := 3) ht (by omega) (yz_s (f := 4) ht (by omega) (yz_e h)))))⟩
theorem yr_l {t : Nat} (hN : N ≤ 16) (ht : t < N) (hp : (∃ i, 0 < i ∧ i < N ∧ yl (i * 5) ≠ 0 ∧ yl (i * 5 + 1) = nI t) → post (-7) (nI N, nI D, ck, sa, nI T, yl, yr, ye, dl, ds, db, dd)) (hz : (∀ i, 0 < i → i < N → ¬ (yl (i * 5) ≠ 0 ∧ yl (i * 5 + 1) = nI t)) → post 0 (nI N, nI D, ck, sa, nI T, dl_P5 yl t 0 0 0 0 0, yr, ye, dl, ds, db, dd)) : ∀ d j : Nat, j + d = N → 0 < j → (∀ i, 0 < i → i < j → ¬ (yl (i * 5) ≠ 0 ∧ yl (i * 5 + 1) = nI t)) → wY_remove_41 post (nI t) (nI N) (nI D) ck sa (nI T) yl yr ye dl ds db dd (d + 1) (nI j) := by
  intro d
  induction d with
  | zero =>
    intro j hj _ h
    exact br_t (nI_le (by omega) (by omega)) (yz_a (by omega) (hz fun i a b => h i a (by omega)))
  | succ d ih =>
    intro j hj h0 h
    have hi : ¬ nI N ≤ nI j := nI_ge (by omega) (by omega)
    have nx : ¬ (yl (j * 5) ≠ 0 ∧ yl (j * 5 + 1) = nI t) → wY_remove_41 post (nI t) (nI N) (nI D) ck sa (nI T) yl yr ye dl ds db dd (d + 1) (nI (j + 1)) := by
      intro hn
      refine ih (j + 1) (by omega) (by omega) ?_
      intro i a b
      by_cases z : i = j
      · rw [z]; exact hn
      · exact h i a (by omega)
    by_cases hk : yl (j * 5) = 0
    · exact br_f hi ⟨dl_v (dl_e5 j) (by omega) (by omega), br_t ((dl_c yl (dl_e5 j) (by omega)).trans hk) (nm_r (nI_1 j) (nx fun w => w.1 hk))⟩
    · by_cases hd : yl (j * 5 + 1) = nI t
      · exact br_f hi ⟨dl_v (dl_e5 j) (by omega) (by omega), br_f (fun z => hk ((dl_c yl (dl_e5 j) (by omega)).symm.trans z)) ⟨dl_v (dl_e5p j 1) (by omega) (by omega), br_t ((dl_c yl (dl_e5p j 1) (by omega)).trans hd) (hp ⟨j, h0, by omega, hk, hd⟩)⟩⟩
      · exact br_f hi ⟨dl_v (dl_e5 j) (by omega) (by omega), br_f (fun z => hk ((dl_c yl (dl_e5 j) (by omega)).symm.trans z)) ⟨dl_v (dl_e5p j 1) (by omega) (by omega), br_f (fun z => hd ((dl_c yl (dl_e5p j 1) (by omega)).symm.trans z)) (nm_r (nI_1 j) (nx fun w => hd w.2))⟩⟩
/-! rename: the walk up -/
theorem yn_l {f : Nat → Nat} {s t : Nat} (hN : N ≤ 16) (hf : ∀ i, i < N → f i < N) (f0 : f 0 = 0) (hl : ∀ i, i < N → yl (i * 5 + 1) = nI (f i)) (hs : s < N) (ht : t < N) (t0 : 0 < t) (hp : (∃ k, k ≤ N ∧ dl_it f s k = t) → post (-8) (nI N, nI D, ck, sa, nI T, yl, yr, ye, dl, ds, db, dd)) (hq : (∀ k, k ≤ N → dl_it f s k ≠ t) → wY_rename_104 post (nI t) x2 x3 (nI N) (nI D) ck sa (nI T) yl yr ye dl ds db dd) : ∀ d m : Nat, m + d = N + 1 → (∀ k, k < m → dl_it f s k ≠ t) → wY_rename_59 post (nI t) x2 x3 (nI N) (nI D) ck sa (nI T) yl yr ye dl ds db dd (d + 1) (nI (dl_it f s m)) (nI m) := by
  intro d
  induction d with
  | zero =>
    intro m hm h
    exact br_t (nI_lt (by omega) (by omega)) (hq fun k hk => h k (by omega))
  | succ d ih =>
    intro m hm h
    have hi : ¬ nI N < nI m := nI_nlt (by omega) (by omega)
    have hx := dl_itlt hf hs m
    by_cases z : dl_it f s m = t
    · exact br_f hi (br_t (congrArg nI z) (hp ⟨m, by omega, z⟩))
    · have hz : ¬ nI (dl_it f s m) = nI t := fun w => z ((nI_eq (by omega) (by omega)).mp w)
      by_cases y : dl_it f s m = 0
      · refine br_f hi (br_f hz (br_t (congrArg nI y) (hq ?_)))
        intro k hk e
        by_cases km : k < m
        · exact h k km e
        · have e2 := dl_it0 f0 y (k - m)
          have e3 : m + (k - m) = k := by omega
          rw [e3] at e2
          omega
      · refine br_f hi (br_f hz (br_f (nI_ne0 (by omega) (by omega)) ⟨dl_v (dl_e5p _ 1) (by omega) (by omega), nm_r ((dl_c yl (dl_e5p _ 1) (by omega)).trans (hl _ hx)) (nm_r (nI_1 m) (ih (m + 1) (by omega) ?_))⟩))
        intro k hk
        by_cases w : k = m
        · rw [w]; exact z
        · exact h k (by omega)
theorem yn_a {f : Nat → Nat} {s t : Nat} (hN : N ≤ 16) (hf : ∀ i, i < N → f i < N) (f0 : f 0 = 0) (hl : ∀ i, i < N → yl (i * 5 + 1) = nI (f i)) (hs : s < N) (ht : t < N) (t0 : 0 < t) (hp : (∃ k, k ≤ N ∧ dl_it f s k = t) → post (-8) (nI N, nI D, ck, sa, nI T, yl, yr, ye, dl, ds, db, dd)) (hq : (∀ k, k ≤ N → dl_it f s k ≠ t) → wY_rename_104 post (nI t) x2 x3 (nI N) (nI D) ck sa (nI T) yl yr ye dl ds db dd) : ∃ n, wY_rename_59 post (nI t) x2 x3 (nI N) (nI D) ck sa (nI T) yl yr ye dl ds db dd n (nI s) 0 :=
  ⟨N + 1 + 1, yn_l hN hf f0 hl hs ht t0 hp hq (N + 1) 0 (by omega) (fun k hk => absurd hk (by omega))⟩
end
end
section
/-! the constructors -/
def dl_K (lo hi k r : Int32) : Prop := (¬ lo ≤ k ∧ r = lo) ∨ (lo ≤ k ∧ k ≤ hi ∧ r = k) ∨ (lo ≤ k ∧ ¬ k ≤ hi ∧ r = hi)
theorem dl_clx (k : Int32) (a b : Nat) (hab : a ≤ b) (hb : b < 2050) : ∃ m, a ≤ m ∧ m ≤ b ∧ dl_K (nI a) (nI b) k (nI m) := by
  by_cases h : nI a ≤ k
  · by_cases h2 : k ≤ nI b
    · have h0 : ¬ k < 0 := Int32.not_lt.mpr (Int32.le_trans (nI_pos' (by omega)) h)
      obtain ⟨m, hm, rfl⟩ := nI_of h0
      exact ⟨m, (nI_leI (by omega) hm).mp h, (nI_leI hm (by omega)).mp h2, Or.inr (Or.inl ⟨h, h2, rfl⟩)⟩
    · exact ⟨b, hab, by omega, Or.inr (Or.inr ⟨h, h2, rfl⟩)⟩
  · exact ⟨a, by omega, hab, Or.inl ⟨h, rfl⟩⟩
theorem xz_a {post : Int32 → Prop} {k lo hi r : Int32} (h : dl_K lo hi k r) (hp : post r) : wpX_clamp post k lo hi := by
  rcases h with ⟨h, rfl⟩ | ⟨h, h2, rfl⟩ | ⟨h, h2, rfl⟩
  · exact br_f h hp
  · exact br_t h (br_t h2 hp)
  · exact br_t h (br_f h2 hp)
theorem yi_83 {post : SY → Prop} {k z r : Int32} (h : dl_K 2 8 k r) (hp : post (z, r, 0, 0, 0, upd (fun _ => 0) 0 2, upd (fun _ => 0) 0 2, fun _ => 0, fun _ => 0, fun _ => 0, fun _ => 0, fun _ => 0)) : wY_init_83 post k z 0 0 0 0 0 (fun _ => 0) (fun _ => 0) (fun _ => 0) (fun _ => 0) (fun _ => 0) (fun _ => 0) (fun _ => 0) := by
  rcases h with ⟨h, rfl⟩ | ⟨h, h2, rfl⟩ | ⟨h, h2, rfl⟩
  · exact br_f h (nm_e (nm_e hp))
  · exact br_t h (br_t h2 (nm_e (nm_e hp)))
  · exact br_t h (br_f h2 (nm_e (nm_e hp)))
theorem yi_a {post : SY → Prop} {k0 k1 z r : Int32} (h0 : dl_K 4 16 k0 z) (h1 : dl_K 2 8 k1 r) (hp : post (z, r, 0, 0, 0, upd (fun _ => 0) 0 2, upd (fun _ => 0) 0 2, fun _ => 0, fun _ => 0, fun _ => 0, fun _ => 0, fun _ => 0)) : wpY_init post k0 k1 := by
  rcases h0 with ⟨h, rfl⟩ | ⟨h, h2, rfl⟩ | ⟨h, h2, rfl⟩
  · exact br_f h (yi_83 h1 hp)
  · exact br_t h (br_t h2 (yi_83 h1 hp))
  · exact br_t h (br_f h2 (yi_83 h1 hp))
theorem dl_Lz (N : Nat) : dl_L N (fun _ => 0) (fun _ => 0) (fun _ => 0) (fun _ => 0) (fun _ => 0) (fun _ => 0) := fun _ _ => ⟨rfl, rfl, rfl, rfl, rfl⟩
theorem dl_Li (N : Nat) : dl_L N (upd (fun _ => 0) 0 2) (fun _ => 0) (fun _ => 0) (fun _ => 0) (fun _ => 0) (upd (fun _ => 0) 0 2) := dl_L0 (j := 0) (dl_Lz N)
theorem dl_Ti {N : Nat} (h4 : 4 ≤ N) : dl_T N (upd (fun _ => 0) 0 2) (fun _ => 0) (fun _ => 0) := by
  refine ⟨pk_us, rfl, fun i hi => ⟨0, by omega, rfl⟩, fun i hi0 hi hk => ?_, fun i j hi0 hi hj0 hj hki => ?_⟩
  · exact absurd (pk_un (by omega)) hk
  · exact absurd (pk_un (by omega)) hki
theorem i_vc0 (k0 : Int32) (k1 : Int32) : wpX_init (fun u => wpY_init (fun v => i_Rel 2 u v) k0 k1) k0 k1 := by
  obtain ⟨N, h4, hN, h0⟩ := dl_clx k0 4 16 (by omega) (by omega)
  obtain ⟨D, h2, hD, h1⟩ := dl_clx k1 2 8 (by omega) (by omega)
  unfold wpX_init
  refine xz_a (r := nI N) h0 ?_
  refine xz_a (r := nI D) h1 ?_
  refine nm_e (nm_e ?_)
  exact yi_a (z := nI N) (r := nI D) h0 h1 (dl_mk (T := 0) ⟨h4, hN, hD, by omega, dl_Li N, dl_Ti h4, ⟨fun d hd => absurd hd (by omega), fun p _ => ⟨rfl, rfl, rfl⟩⟩, dl_Li N⟩)
/-! calls that only ask -/
theorem i_vc_getClock {k : Nat} {u : SX} {v : SY} (I : i_Rel k u v) (hk : k + 4 ≤ 2050) : wpX_getClock (fun r => wpY_getClock (fun r' => r' = r ∧ i_Rel (k + 4) u v) v) u := by
  obtain ⟨N, D, T, ck, sa, lk, lp, ln, lc, ls, dl, ds, db, dc, dd, ek, ep, en, ec, es, eg, rk, rp, rn, rc, rs, yl, yr, ye, rfl, rfl, R⟩ := I
  obtain ⟨h4, hN, hD, hT, HL, HT, HE, HR⟩ := id R
  exact ⟨rfl, dl_mk R⟩
theorem i_vc_restoreStamp {k : Nat} {u : SX} {v : SY} (I : i_Rel k u v) (hk : k + 4 ≤ 2050) : wpX_restoreStamp (fun r => wpY_restoreStamp (fun r' => r' = r ∧ i_Rel (k + 4) u v) v) u := by
  obtain ⟨N, D, T, ck, sa, lk, lp, ln, lc, ls, dl, ds, db, dc, dd, ek, ep, en, ec, es, eg, rk, rp, rn, rc, rs, yl, yr, ye, rfl, rfl, R⟩ := I
  obtain ⟨h4, hN, hD, hT, HL, HT, HE, HR⟩ := id R
  exact ⟨rfl, dl_mk R⟩
theorem dl_wc (p : Int32) (b : Nat) (hb : b < 2050) : p < 0 ∨ (¬ p < 0 ∧ nI b < p) ∨ ∃ w, w ≤ b ∧ p = nI w := by
  by_cases h : p < 0
  · exact Or.inl h
  · obtain ⟨w, hw, rfl⟩ := nI_of h
    by_cases h2 : w ≤ b
    · exact Or.inr (Or.inr ⟨w, h2, rfl⟩)
    · exact Or.inr (Or.inl ⟨h, nI_lt (by omega) hw⟩)
theorem dl_L5 {N j w : Nat} {lk lp ln lc ls yl : Nat → Int32} (HL : dl_L N lk lp ln lc ls yl) (hj : j < N) (hw : w ≤ 4) : (w = 0 ∧ yl (j * 5 + w) = lk j) ∨ (w = 1 ∧ yl (j * 5 + w) = lp j) ∨ (w = 2 ∧ yl (j * 5 + w) = ln j) ∨ (w = 3 ∧ yl (j * 5 + w) = lc j) ∨ (w = 4 ∧ yl (j * 5 + w) = ls j) := by
  obtain ⟨a0, a1, a2, a3, a4⟩ := HL j hj
  have h : w = 0 ∨ w = 1 ∨ w = 2 ∨ w = 3 ∨ w = 4 := by omega
  rcases h with rfl | rfl | rfl | rfl | rfl
  · exact Or.inl ⟨rfl, a0⟩
  · exact Or.inr (Or.inl ⟨rfl, a1⟩)
  · exact Or.inr (Or.inr (Or.inl ⟨rfl, a2⟩))
  · exact Or.inr (Or.inr (Or.inr (Or.inl ⟨rfl, a3⟩)))
  · exact Or.inr (Or.inr (Or.inr (Or.inr ⟨rfl, a4⟩)))
/-! the reference's question by inode and field: refused, or answered -/
section
variable {N D T : Nat} {ck sa : Int32} {yl yr ye dl ds db dd : Nat → Int32} {post : Int32 → Prop} {p q : Int32}
theorem yo_f (hN : N ≤ 16) (h : ¬ dl_In N p) (hp : post (-1)) : wpY_inodeInfo post (nI N, nI D, ck, sa, nI T, yl, yr, ye, dl, ds, db, dd) p q := by
  rcases dl_In_c (by omega) h with a | ⟨a, b⟩
  · exact br_t a hp
  · exact br_f a (br_t b hp)
theorem yo_g {j : Nat} (hN : N ≤ 16) (hj : j < N) (h : q < 0 ∨ (¬ q < 0 ∧ nI 4 < q)) (hp : post (-1)) : wpY_inodeInfo post (nI N, nI D, ck, sa, nI T, yl, yr, ye, dl, ds, db, dd) (nI j) q := by
  rcases h with h | ⟨h, h2⟩
  · exact br_f (nI_pos (by omega)) (br_f (nI_ge hj (by omega)) (br_t h hp))
  · exact br_f (nI_pos (by omega)) (br_f (nI_ge hj (by omega)) (br_f h (br_f (Int32.not_le.mpr h2) hp)))
theorem yo_t {j w : Nat} (hN : N ≤ 16) (hj : j < N) (hw : w ≤ 4) (hp : post (yl (j * 5 + w))) : wpY_inodeInfo post (nI N, nI D, ck, sa, nI T, yl, yr, ye, dl, ds, db, dd) (nI j) (nI w) := by
  refine br_f (nI_pos (by omega)) (br_f (nI_ge hj (by omega)) (br_f (nI_pos (by omega)) (br_t (nI_le (b := 4) hw (by decide)) ⟨dl_v (dl_e5p j w) (by omega) (by omega), ?_⟩)))
  rw [dl_c yl (dl_e5p j w) (by omega)]
  exact hp
theorem ys_f (hN : N ≤ 16) (h : ¬ dl_In N p) (hp : post (-1)) : wpY_restoredInfo post (nI N, nI D, ck, sa, nI T, yl, yr, ye, dl, ds, db, dd) p q := by
  rcases dl_In_c (by omega) h with a | ⟨a, b⟩
  · exact br_t a hp
  · exact br_f a (br_t b hp)
theorem ys_g {j : Nat} (hN : N ≤ 16) (hj : j < N) (h : q < 0 ∨ (¬ q < 0 ∧ nI 4 < q)) (hp : post (-1)) : wpY_restoredInfo post (nI N, nI D, ck, sa, nI T, yl, yr, ye, dl, ds, db, dd) (nI j) q := by
  rcases h with h | ⟨h, h2⟩
  · exact br_f (nI_pos (by omega)) (br_f (nI_ge hj (by omega)) (br_t h hp))
  · exact br_f (nI_pos (by omega)) (br_f (nI_ge hj (by omega)) (br_f h (br_f (Int32.not_le.mpr h2) hp)))
theorem ys_t {j w : Nat} (hN : N ≤ 16) (hj : j < N) (hw : w ≤ 4) (hp : post (yr (j * 5 + w))) : wpY_restoredInfo post (nI N, nI D, ck, sa, nI T, yl, yr, ye, dl, ds, db, dd) (nI j) (nI w) := by
  refine br_f (nI_pos (by omega)) (br_f (nI_ge hj (by omega)) (br_f (nI_pos (by omega)) (br_t (nI_le (b := 4) hw (by decide)) ⟨dl_v (dl_e5p j w) (by omega) (by omega), ?_⟩)))
  rw [dl_c yr (dl_e5p j w) (by omega)]
  exact hp
end
theorem i_vc_inodeInfo {k : Nat} {u : SX} {v : SY} (I : i_Rel k u v) (hk : k + 4 ≤ 2050) (v1 : Int32) (v2 : Int32) : wpX_inodeInfo (fun r => wpY_inodeInfo (fun r' => r' = r ∧ i_Rel (k + 4) u v) v v1 v2) u v1 v2 := by
  obtain ⟨N, D, T, ck, sa, lk, lp, ln, lc, ls, dl, ds, db, dc, dd, ek, ep, en, ec, es, eg, rk, rp, rn, rc, rs, yl, yr, ye, rfl, rfl, R⟩ := I
  obtain ⟨h4, hN, hD, hT, HL, HT, HE, HR⟩ := id R
  unfold wpX_inodeInfo
  by_cases c : dl_In N v1
  · obtain ⟨j, hj, rfl⟩ := c
    have hv : vp_in (nI j) 16 := vp_in_nI (by omega) (by omega)
    have e : (nI j).toNatClampNeg = j := nI_clamp (by omega)
    refine xi_t hN hj ?_
    refine br_f dl_10 ⟨hv, hv, hv, hv, hv, ?_⟩
    rcases dl_wc v2 4 (by omega) with h | h | ⟨w, hw, rfl⟩
    · exact xq_f (Or.inl h) (yo_g hN hj (Or.inl h) ⟨rfl, dl_mk R⟩)
    · exact xq_f (Or.inr h) (yo_g hN hj (Or.inr h) ⟨rfl, dl_mk R⟩)
    · refine xq_a w hw (r := yl (j * 5 + w)) ?_ ?_
      · rw [e]; exact dl_L5 HL hj hw
      · exact yo_t hN hj hw ⟨rfl, dl_mk R⟩
  · refine xi_f hN c ?_
    exact br_t rfl (yo_f hN c ⟨rfl, dl_mk R⟩)
theorem i_vc_restoredInfo {k : Nat} {u : SX} {v : SY} (I : i_Rel k u v) (hk : k + 4 ≤ 2050) (v1 : Int32) (v2 : Int32) : wpX_restoredInfo (fun r => wpY_restoredInfo (fun r' => r' = r ∧ i_Rel (k + 4) u v) v v1 v2) u v1 v2 := by
  obtain ⟨N, D, T, ck, sa, lk, lp, ln, lc, ls, dl, ds, db, dc, dd, ek, ep, en, ec, es, eg, rk, rp, rn, rc, rs, yl, yr, ye, rfl, rfl, R⟩ := I
  obtain ⟨h4, hN, hD, hT, HL, HT, HE, HR⟩ := id R
  unfold wpX_restoredInfo
  by_cases c : dl_In N v1
  · obtain ⟨j, hj, rfl⟩ := c
    have hv : vp_in (nI j) 16 := vp_in_nI (by omega) (by omega)
    have e : (nI j).toNatClampNeg = j := nI_clamp (by omega)
    refine xi_t hN hj ?_
    refine br_f dl_10 ⟨hv, hv, hv, hv, hv, ?_⟩
    rcases dl_wc v2 4 (by omega) with h | h | ⟨w, hw, rfl⟩
    · exact xq_f (Or.inl h) (ys_g hN hj (Or.inl h) ⟨rfl, dl_mk R⟩)
    · exact xq_f (Or.inr h) (ys_g hN hj (Or.inr h) ⟨rfl, dl_mk R⟩)
    · refine xq_a w hw (r := yr (j * 5 + w)) ?_ ?_
      · rw [e]; exact dl_L5 HR hj hw
      · exact ys_t hN hj hw ⟨rfl, dl_mk R⟩
  · refine xi_f hN c ?_
    exact br_t rfl (ys_f hN c ⟨rfl, dl_mk R⟩)
theorem i_vc_dumpDate {k : Nat} {u : SX} {v : SY} (I : i_Rel k u v) (hk : k + 4 ≤ 2050) (v1 : Int32) : wpX_dumpDate (fun r => wpY_dumpDate (fun r' => r' = r ∧ i_Rel (k + 4) u v) v v1) u v1 := by
  obtain ⟨N, D, T, ck, sa, lk, lp, ln, lc, ls, dl, ds, db, dc, dd, ek, ep, en, ec, es, eg, rk, rp, rn, rc, rs, yl, yr, ye, rfl, rfl, R⟩ := I
  obtain ⟨h4, hN, hD, hT, HL, HT, HE, HR⟩ := id R
  unfold wpX_dumpDate
  rcases dl_wc v1 9 (by omega) with h | ⟨h, h2⟩ | ⟨w, hw, rfl⟩
  · refine xv_f (fun ⟨j, hj, e⟩ => nI_pos (n := j) (by omega) (e ▸ h)) ?_
    exact br_t rfl (br_t h ⟨rfl, dl_mk R⟩)
  · refine xv_f ?_ ?_
    · intro ⟨j, hj, e⟩
      rw [e, nI_ltI (by omega) (by omega)] at h2
      omega
    · exact br_t rfl (br_f h (br_f (Int32.not_le.mpr h2) ⟨rfl, dl_mk R⟩))
  · have hv : vp_in (nI w) 10 := vp_in_nI (by omega) (by omega)
    refine xv_t (by omega) ?_
    exact br_f dl_10 ⟨hv, br_f (nI_pos (by omega)) (br_t (nI_le (b := 9) hw (by decide)) ⟨hv, rfl, dl_mk R⟩)⟩
/-! lookup -/
theorem dl_MY {N j : Nat} {dir nm : Int32} {lk lp ln lc ls yl : Nat → Int32} (HL : dl_L N lk lp ln lc ls yl) (hN : N ≤ 16) (hj : j < N) : (lk j ≠ 0 ∧ lp j = dir ∧ ln j = nm) ↔ dl_Y yl dir nm (-1) j := by
  obtain ⟨a0, a1, a2, a3, a4⟩ := HL j hj
  unfold dl_Y
  rw [a0, a1, a2]
  exact ⟨fun h => ⟨dl_m1 (by omega), h⟩, fun h => h.2⟩
section
variable {N D T : Nat} {ck sa : Int32} {yl yr ye dl ds db dd : Nat → Int32} {post : Int32 → Prop} {p q : Int32}
theorem yk_i (hN : N ≤ 16) (h : ¬ dl_In N p) (hp : post (-1)) : wpY_lookup post (nI N, nI D, ck, sa, nI T, yl, yr, ye, dl, ds, db, dd) p q := by
  rcases dl_In_c (by omega) h with a | ⟨a, b⟩
  · exact br_t a hp
  · exact br_f a (br_t b hp)
theorem yk_n {j : Nat} (hN : N ≤ 16) (hj : j < N) (h : ¬ (¬ q < 1 ∧ ¬ 255 < q)) (hp : post (-1)) : wpY_lookup post (nI N, nI D, ck, sa, nI T, yl, yr, ye, dl, ds, db, dd) (nI j) q := by
  by_cases a : q < 1
  · exact br_f (nI_pos (by omega)) (br_f (nI_ge hj (by omega)) (br_t a hp))
  · by_cases b : 255 < q
    · exact br_f (nI_pos (by omega)) (br_f (nI_ge hj (by omega)) (br_f a (br_f (Int32.not_le.mpr b) hp)))
    · exact absurd ⟨a, b⟩ h
theorem yk_t {j : Nat} (hN : N ≤ 16) (hj : j < N) (a : ¬ q < 1) (b : ¬ 255 < q) (hp : wpY_findEntry post (nI N, nI D, ck, sa, nI T, yl, yr, ye, dl, ds, db, dd) (nI j) q (-1)) : wpY_lookup post (nI N, nI D, ck, sa, nI T, yl, yr, ye, dl, ds, db, dd) (nI j) q :=
  br_f (nI_pos (by omega)) (br_f (nI_ge hj (by omega)) (br_f a (br_t (Int32.not_lt.mp b) hp)))
end
theorem i_vc_lookup {k : Nat} {u : SX} {v : SY} (I : i_Rel k u v) (hk : k + 4 ≤ 2050) (v1 : Int32) (v2 : Int32) : wpX_lookup (fun r => wpY_lookup (fun r' => r' = r ∧ i_Rel (k + 4) u v) v v1 v2) u v1 v2 := by
  obtain ⟨N, D, T, ck, sa, lk, lp, ln, lc, ls, dl, ds, db, dc, dd, ek, ep, en, ec, es, eg, rk, rp, rn, rc, rs, yl, yr, ye, rfl, rfl, R⟩ := I
  obtain ⟨h4, hN, hD, hT, HL, HT, HE, HR⟩ := id R
  unfold wpX_lookup
  by_cases c : dl_In N v1
  · obtain ⟨j, hj, rfl⟩ := c
    refine xi_t hN hj ?_
    refine br_f dl_10 ?_
    by_cases n : ¬ v2 < 1 ∧ ¬ 255 < v2
    · refine xn_t n.1 n.2 ?_
      refine br_f dl_10 ?_
      refine xf_a hN ?_
      intro r hr
      refine yk_t hN hj n.1 n.2 ?_
      refine yf_a hN h4 ?_
      intro r' hr'
      exact ⟨dl_Gu (fun i _ hi => dl_MY HL hN hi) hr hr', dl_mk R⟩
    · refine xn_f n ?_
      exact br_t rfl (yk_n hN hj n ⟨rfl, dl_mk R⟩)
  · refine xi_f hN c ?_
    exact br_t rfl (yk_i hN c ⟨rfl, dl_mk R⟩)
end
section
/-! the reference's opening of write, remove and rename -/
theorem yp_t {N j : Nat} {yl : Nat → Int32} {E B : Prop} (hN : N ≤ 16) (h0 : 0 < j) (hj : j < N) (hk : yl (j * 5) ≠ 0) (hb : B) : (nI j < 1 → E) ∧ (¬ nI j < 1 → ((nI N ≤ nI j → E) ∧ (¬ nI N ≤ nI j → (vp_in (nI j * 5) 80 ∧ ((yl (nI j * 5).toNatClampNeg = 0 → E) ∧ (¬ yl (nI j * 5).toNatClampNeg = 0 → B)))))) :=
  br_f (nI_nlt (b := 1) h0 (by omega)) (br_f (nI_ge hj (by omega)) ⟨dl_v (dl_e5 j) (by omega) (by omega), br_f (fun z => hk ((dl_c yl (dl_e5 j) (by omega)).symm.trans z)) hb⟩)
theorem yp_f {N : Nat} {p : Int32} {yl : Nat → Int32} {E B : Prop} (hN : N ≤ 16) (h : ¬ dl_Ch N (fun j => yl (j * 5)) p) (he : E) : (p < 1 → E) ∧ (¬ p < 1 → ((nI N ≤ p → E) ∧ (¬ nI N ≤ p → (vp_in (p * 5) 80 ∧ ((yl (p * 5).toNatClampNeg = 0 → E) ∧ (¬ yl (p * 5).toNatClampNeg = 0 → B)))))) := by
  by_cases a : p < 1
  · exact br_t a he
  · by_cases b : nI N ≤ p
    · exact br_f a (br_t b he)
    · have h0 : ¬ p < 0 := fun z => a (Int32.lt_trans z (by decide))
      obtain ⟨j, hj, rfl⟩ := nI_of h0
      have j0 : 0 < j := by
        refine Nat.pos_of_ne_zero fun e => a ?_
        rw [e]
        decide +kernel
      have jN : j < N := by
        rw [nI_leI (by omega) hj] at b
        omega
      have hk : yl (j * 5) = 0 := Classical.byContradiction fun w => h ⟨j, j0, jN, rfl, w⟩
      exact br_f a (br_f b ⟨dl_v (dl_e5 j) (by omega) (by omega), br_t ((dl_c yl (dl_e5 j) (by omega)).trans hk) he⟩)
theorem dl_ChY {N : Nat} {p : Int32} {lk lp ln lc ls yl : Nat → Int32} (HL : dl_L N lk lp ln lc ls yl) (h : ¬ dl_Ch N lk p) : ¬ dl_Ch N (fun j => yl (j * 5)) p := by
  intro ⟨j, h0, hj, e, hk⟩
  refine h ⟨j, h0, hj, e, ?_⟩
  rw [← (HL j hj).1]
  exact hk
theorem dl_DrY {N : Nat} {p : Int32} {lk lp ln lc ls yl : Nat → Int32} (HL : dl_L N lk lp ln lc ls yl) (h : ¬ dl_Dr N lk p) : ¬ ∃ j, j < N ∧ p = nI j ∧ yl (j * 5) = 2 := by
  intro ⟨j, hj, e, hk⟩
  refine h ⟨j, hj, e, ?_⟩
  rw [← (HL j hj).1]
  exact hk
section
variable {N D T : Nat} {ck sa : Int32} {yl yr ye dl ds db dd : Nat → Int32} {post : Int32 → SY → Prop} {p x2 x3 : Int32} {j : Nat}
theorem yw_f (hN : N ≤ 16) (h : ¬ dl_Ch N (fun j => yl (j * 5)) p) (hp : post (-6) (nI N, nI D, ck, sa, nI T, yl, yr, ye, dl, ds, db, dd)) : wpY_write post (nI N, nI D, ck, sa, nI T, yl, yr, ye, dl, ds, db, dd) p x2 := yp_f hN h hp
theorem yw_d (hN : N ≤ 16) (h0 : 0 < j) (hj : j < N) (hk : yl (j * 5) ≠ 0) (h2 : yl (j * 5) = 2) (hp : post (-1) (nI N, nI D, ck, sa, nI T, yl, yr, ye, dl, ds, db, dd)) : wpY_write post (nI N, nI D, ck, sa, nI T, yl, yr, ye, dl, ds, db, dd) (nI j) x2 :=
  yp_t hN h0 hj hk ⟨dl_v (dl_e5 j) (by omega) (by omega), br_t ((dl_c yl (dl_e5 j) (by omega)).trans h2) hp⟩
theorem yw_t (hN : N ≤ 16) (h0 : 0 < j) (hj : j < N) (hk : yl (j * 5) ≠ 0) (h2 : ¬ yl (j * 5) = 2) (hp : post 0 (nI N, nI D, ck + 1, sa, nI T, upd (upd yl (j * 5 + 3) x2) (j * 5 + 4) (ck + 1), yr, ye, dl, ds, db, dd)) : wpY_write post (nI N, nI D, ck, sa, nI T, yl, yr, ye, dl, ds, db, dd) (nI j) x2 :=
  yp_t hN h0 hj hk ⟨dl_v (dl_e5 j) (by omega) (by omega), br_f (fun z => h2 ((dl_c yl (dl_e5 j) (by omega)).symm.trans z)) (nm_e ⟨dl_v (dl_e5p j 3) (by omega) (by omega), nm_r (dl_u (dl_e5p j 3) (by omega) rfl) ⟨dl_v (dl_e5p j 4) (by omega) (by omega), nm_r (dl_u (dl_e5p j 4) (by omega) rfl) hp⟩⟩)⟩
end
theorem i_vc_write {k : Nat} {u : SX} {v : SY} (I : i_Rel k u v) (hk : k + 4 ≤ 2050) (v1 : Int32) (v2 : Int32) : wpX_write (fun r u' => wpY_write (fun r' v' => r' = r ∧ i_Rel (k + 4) u' v') v v1 v2) u v1 v2 := by
  obtain ⟨N, D, T, ck, sa, lk, lp, ln, lc, ls, dl, ds, db, dc, dd, ek, ep, en, ec, es, eg, rk, rp, rn, rc, rs, yl, yr, ye, rfl, rfl, R⟩ := I
  obtain ⟨h4, hN, hD, hT, HL, HT, HE, HR⟩ := id R
  unfold wpX_write
  by_cases c : dl_Ch N lk v1
  · obtain ⟨j, h0, hj, rfl, hk⟩ := c
    have hv : vp_in (nI j) 16 := vp_in_nI (by omega) (by omega)
    have yk : yl (j * 5) = lk j := (HL j hj).1
    refine xc_t hN h0 hj hk ?_
    by_cases k2 : lk j = 2
    · exact br_f dl_10 ⟨hv, br_t ((dl_c lk rfl (by omega)).trans k2) (yw_d hN h0 hj (by rw [yk]; exact hk) (by rw [yk]; exact k2) ⟨rfl, dl_mk R⟩)⟩
    · exact br_f dl_10 ⟨hv, br_f (fun z => k2 ((dl_c lk rfl (by omega)).symm.trans z)) (nm_e ⟨hv, nm_r (dl_u rfl (by omega) rfl) ⟨hv, nm_r (dl_u rfl (by omega) rfl) (yw_t hN h0 hj (by rw [yk]; exact hk) (by rw [yk]; exact k2) ⟨rfl, dl_mk ⟨h4, hN, hD, hT, dl_L4 (dl_L3 HL), HT, HE, HR⟩⟩)⟩⟩)⟩
  · refine xc_f hN c ?_
    exact br_t rfl (yw_f hN (dl_ChY HL c) ⟨rfl, dl_mk R⟩)
/-! create -/
section
variable {N D T : Nat} {ck sa : Int32} {yl yr ye dl ds db dd : Nat → Int32} {post : Int32 → SY → Prop} {p x2 x3 : Int32} {j : Nat}
theorem ycr_d (hN : N ≤ 16) (h : ¬ ∃ j, j < N ∧ p = nI j ∧ yl (j * 5) = 2) (hp : post (-2) (nI N, nI D, ck, sa, nI T, yl, yr, ye, dl, ds, db, dd)) : wY_create_12 post p x2 x3 (nI N) (nI D) ck sa (nI T) yl yr ye dl ds db dd := by
  unfold wY_create_12
  refine yd_f hN h ?_
  exact br_t rfl hp
theorem ycr_n (hN : N ≤ 16) (hj : j < N) (hd : yl (j * 5) = 2) (h : ¬ (¬ x2 < 1 ∧ ¬ 255 < x2)) (hp : post (-3) (nI N, nI D, ck, sa, nI T, yl, yr, ye, dl, ds, db, dd)) : wY_create_12 post (nI j) x2 x3 (nI N) (nI D) ck sa (nI T) yl yr ye dl ds db dd := by
  unfold wY_create_12
  refine yd_t hN hj hd ?_
  by_cases a : x2 < 1
  · exact br_f dl_10 (br_t a hp)
  · by_cases b : 255 < x2
    · exact br_f dl_10 (br_f a (br_f (Int32.not_le.mpr b) hp))
    · exact absurd ⟨a, b⟩ h
theorem ycr_t (hN : N ≤ 16) (h4 : 4 ≤ N) (hj : j < N) (hd : yl (j * 5) = 2) (a : ¬ x2 < 1) (b : ¬ 255 < x2) (hp4 : (∃ i, 0 < i ∧ i < N ∧ dl_Y yl (nI j) x2 (-1) i) → post (-4) (nI N, nI D, ck, sa, nI T, yl, yr, ye, dl, ds, db, dd)) (hp5 : (∀ i, 0 < i → i < N → ¬ dl_Y yl (nI j) x2 (-1) i) → (∀ i, 0 < i → i < N → ¬ yl (i * 5) = 0) → post (-5) (nI N, nI D, ck, sa, nI T, yl, yr, ye, dl, ds, db, dd)) (hp1 : (∀ i, 0 < i → i < N → ¬ dl_Y yl (nI j) x2 (-1) i) → ∀ t, 0 < t → t < N → yl (t * 5) = 0 → (∀ i, 0 < i → i < t → ¬ yl (i * 5) = 0) → post (nI t) (nI N, nI D, ck + 1, sa, nI T, dl_P5 yl t x3 (nI j) x2 0 (ck + 1), yr, ye, dl, ds, db, dd)) : wY_create_12 post (nI j) x2 x3 (nI N) (nI D) ck sa (nI T) yl yr ye dl ds db dd := by
  unfold wY_create_12
  refine yd_t hN hj hd ?_
  refine br_f dl_10 (br_f a (br_t (Int32.not_lt.mp b) ?_))
  refine yf_a hN h4 ?_
  intro r hr
  rcases hr with ⟨rfl, hn⟩ | ⟨i, i0, hi, rfl, hm, hl⟩
  · have e : nI N - 1 = nI (N - 1) := by
      obtain ⟨m, rfl⟩ : ∃ m, N = m + 1 := ⟨N - 1, by omega⟩
      exact nI_pred m
    exact br_t dl_m0 (nm_r e ⟨N - 1 + 1, yc_l hN (hp5 hn) (hp1 hn) (N - 1) (-1) (by omega) (Or.inl ⟨rfl, fun i a b => absurd b (by omega)⟩)⟩)
  · exact br_f (nI_pos (by omega)) (hp4 ⟨i, i0, hi, hm⟩)
end
theorem dl_create {k : Nat} {N D T : Nat} {ck sa : Int32} {lk lp ln lc ls dl ds db dc dd ek ep en ec es eg rk rp rn rc rs yl yr ye : Nat → Int32} {v1 v2 v3 : Int32} (R : dl_R N D T lk lp ln lc ls dc ek ep en ec es eg rk rp rn rc rs yl yr ye) (W : ∀ (r : Int32) (u' : SX), wY_create_12 (fun r' v' => r' = r ∧ i_Rel k u' v') v1 v2 v3 (nI N) (nI D) ck sa (nI T) yl yr ye dl ds db dd → wpY_create (fun r' v' => r' = r ∧ i_Rel k u' v') (nI N, nI D, ck, sa, nI T, yl, yr, ye, dl, ds, db, dd) v1 v2 v3) : wX_create_12 (fun r u' => wpY_create (fun r' v' => r' = r ∧ i_Rel k u' v') (nI N, nI D, ck, sa, nI T, yl, yr, ye, dl, ds, db, dd) v1 v2 v3) v1 v2 v3 (nI N) (nI D) ck (nI T) sa lk lp ln lc ls dl ds db dc dd ek ep en ec es eg rk rp rn rc rs := by
  obtain ⟨h4, hN, hD, hT, HL, HT, HE, HR⟩ := id R
  unfold wX_create_12
  by_cases c : dl_Dr N lk v1
  · obtain ⟨q, hq, rfl, hd⟩ := c
    have yd : yl (q * 5) = 2 := (HL q hq).1.trans hd
    refine xd_t hN hq hd ?_
    refine br_f dl_10 ?_
    by_cases n : ¬ v2 < 1 ∧ ¬ 255 < v2
    · refine xn_t n.1 n.2 ?_
      refine br_f dl_10 ?_
      refine xf_a hN ?_
      intro r hr
      rcases hr with ⟨rfl, hn⟩ | ⟨i, i0, hi, rfl, hm, hl⟩
      · refine br_t rfl ?_
        refine xl_a hN HT.1 ?_
        intro r hr
        rcases hr with ⟨rfl, hf⟩ | ⟨t, t0, ht, rfl, hk, hl⟩
        · refine br_t rfl ?_
          refine W _ _ (ycr_t hN h4 hq yd n.1 n.2 ?_ ?_ ?_)
          · intro ⟨i, i0, hi, hm⟩
            exact absurd ((dl_MY HL hN hi).mpr hm) (hn i i0 hi)
          · intro _ _
            exact ⟨rfl, dl_mk R⟩
          · intro _ t t0 ht hz _
            exact absurd ((HL t ht).1.symm.trans hz) (hf t t0 ht)
        · have hv : vp_in (nI t) 16 := vp_in_nI (by omega) (by omega)
          refine br_f (dl_m1 (by omega)) (nm_e ⟨hv, nm_r (dl_u rfl (by omega) rfl) ⟨hv, nm_r (dl_u rfl (by omega) rfl) ⟨hv, nm_r (dl_u rfl (by omega) rfl) ⟨hv, nm_r (dl_u rfl (by omega) rfl) ⟨hv, nm_r (dl_u rfl (by omega) rfl) ?_⟩⟩⟩⟩⟩)
          refine W _ _ (ycr_t hN h4 hq yd n.1 n.2 ?_ ?_ ?_)
          · intro ⟨i, i0, hi, hm⟩
            exact absurd ((dl_MY HL hN hi).mpr hm) (hn i i0 hi)
          · intro _ hz
            exact absurd ((HL t ht).1.trans hk) (hz t t0 ht)
          · intro _ t' t0' ht' hz hl'
            have h1 : ¬ t < t' := fun w => hl' t t0 w ((HL t ht).1.trans hk)
            have h2 : ¬ t' < t := fun w => hl t' t0' w ((HL t' ht').1.symm.trans hz)
            have e : t' = t := by omega
            subst e
            exact ⟨rfl, dl_mk ⟨h4, hN, hD, hT, dl_L4 (dl_L3 (dl_L2 (dl_L1 (dl_L0 HL)))), dl_Tcreate HT t0 ht hk hq hd hn, HE, HR⟩⟩
      · refine br_f (dl_m1 (by omega)) ?_
        refine W _ _ (ycr_t hN h4 hq yd n.1 n.2 ?_ ?_ ?_)
        · intro _
          exact ⟨rfl, dl_mk R⟩
        · intro hn _
          exact absurd ((dl_MY HL hN hi).mp hm) (hn i i0 hi)
        · intro hn
          exact absurd ((dl_MY HL hN hi).mp hm) (hn i i0 hi)
    · refine xn_f n ?_
      exact br_t rfl (W _ _ (ycr_n hN hq yd n ⟨rfl, dl_mk R⟩))
  · refine xd_f hN c ?_
    exact br_t rfl (W _ _ (ycr_d hN (dl_DrY HL c) ⟨rfl, dl_mk R⟩))
theorem i_vc_create {k : Nat} {u : SX} {v : SY} (I : i_Rel k u v) (hk : k + 4 ≤ 2050) (v1 : Int32) (v2 : Int32) (v3 : Int32) : wpX_create (fun r u' => wpY_create (fun r' v' => r' = r ∧ i_Rel (k + 4) u' v') v v1 v2 v3) u v1 v2 v3 := by
  obtain ⟨N, D, T, ck, sa, lk, lp, ln, lc, ls, dl, ds, db, dc, dd, ek, ep, en, ec, es, eg, rk, rp, rn, rc, rs, yl, yr, ye, rfl, rfl, R⟩ := I
  obtain ⟨h4, hN, hD, hT, HL, HT, HE, HR⟩ := id R
  by_cases k1 : v3 = 1
  · have h := dl_create (k := k + 4) (ck := ck) (sa := sa) (dl := dl) (ds := ds) (db := db) (dd := dd) (v1 := v1) (v2 := v2) (v3 := v3) R (fun _ _ h => br_t k1 h)
    exact br_t k1 h
  · by_cases k2 : v3 = 2
    · have h := dl_create (k := k + 4) (ck := ck) (sa := sa) (dl := dl) (ds := ds) (db := db) (dd := dd) (v1 := v1) (v2 := v2) (v3 := v3) R (fun _ _ h => br_f k1 (br_t k2 h))
      exact br_f k1 (br_t k2 h)
    · exact br_f k1 (br_f k2 (br_f k1 (br_f k2 ⟨rfl, dl_mk R⟩)))
/-! remove -/
section
variable {N D T : Nat} {ck sa : Int32} {yl yr ye dl ds db dd : Nat → Int32} {post : Int32 → SY → Prop} {p : Int32} {t : Nat}
theorem yre_f (hN : N ≤ 16) (h : ¬ dl_Ch N (fun j => yl (j * 5)) p) (hp : post (-6) (nI N, nI D, ck, sa, nI T, yl, yr, ye, dl, ds, db, dd)) : wpY_remove post (nI N, nI D, ck, sa, nI T, yl, yr, ye, dl, ds, db, dd) p := yp_f hN h hp
theorem yre_t (hN : N ≤ 16) (h4 : 4 ≤ N) (h0 : 0 < t) (ht : t < N) (hk : yl (t * 5) ≠ 0) (hp : yl (t * 5) = 2 → (∃ i, 0 < i ∧ i < N ∧ yl (i * 5) ≠ 0 ∧ yl (i * 5 + 1) = nI t) → post (-7) (nI N, nI D, ck, sa, nI T, yl, yr, ye, dl, ds, db, dd)) (hz : (yl (t * 5) = 2 → ∀ i, 0 < i → i < N → ¬ (yl (i * 5) ≠ 0 ∧ yl (i * 5 + 1) = nI t)) → post 0 (nI N, nI D, ck, sa, nI T, dl_P5 yl t 0 0 0 0 0, yr, ye, dl, ds, db, dd)) : wpY_remove post (nI N, nI D, ck, sa, nI T, yl, yr, ye, dl, ds, db, dd) (nI t) := by
  refine yp_t hN h0 ht hk ⟨dl_v (dl_e5 t) (by omega) (by omega), ?_⟩
  by_cases k2 : yl (t * 5) = 2
  · exact br_t ((dl_c yl (dl_e5 t) (by omega)).trans k2) ⟨N - 1 + 1, yr_l hN ht (hp k2) (fun h => hz fun _ => h) (N - 1) 1 (by omega) (by omega) (fun i a b => absurd b (by omega))⟩
  · exact br_f (fun z => k2 ((dl_c yl (dl_e5 t) (by omega)).symm.trans z)) (yz_a (by omega) (hz fun z => absurd z k2))
end
theorem i_vc_remove {k : Nat} {u : SX} {v : SY} (I : i_Rel k u v) (hk : k + 4 ≤ 2050) (v1 : Int32) : wpX_remove (fun r u' => wpY_remove (fun r' v' => r' = r ∧ i_Rel (k + 4) u' v') v v1) u v1 := by
  obtain ⟨N, D, T, ck, sa, lk, lp, ln, lc, ls, dl, ds, db, dc, dd, ek, ep, en, ec, es, eg, rk, rp, rn, rc, rs, yl, yr, ye, rfl, rfl, R⟩ := I
  obtain ⟨h4, hN, hD, hT, HL, HT, HE, HR⟩ := id R
  unfold wpX_remove
  by_cases c : dl_Ch N lk v1
  · obtain ⟨t, h0, ht, rfl, hk⟩ := c
    have hv : vp_in (nI t) 16 := vp_in_nI (by omega) (by omega)
    have yk : yl (t * 5) ≠ 0 := by rw [(HL t ht).1]; exact hk
    refine xc_t hN h0 ht hk ?_
    refine br_f dl_10 ?_
    refine xh_a hN ?_ ?_
    · intro ⟨i, i0, hi, ik, ip⟩
      refine br_f dl_10 ?_
      refine yre_t hN h4 h0 ht yk ?_ ?_
      · intro _ _
        exact ⟨rfl, dl_mk R⟩
      · intro hz
        obtain ⟨j, hj, e, k2⟩ := HT.2.2.2.1 i i0 hi ik
        have e2 : j = t := (nI_eq (by omega) (by omega)).mp (e.symm.trans ip)
        rw [e2] at k2
        refine absurd ⟨?_, ?_⟩ (hz ((HL t ht).1.trans k2) i i0 hi)
        · rw [(HL i hi).1]; exact ik
        · rw [(HL i hi).2.1]; exact ip
    · intro hn
      refine br_t rfl ⟨hv, nm_r (dl_u rfl (by omega) rfl) ⟨hv, nm_r (dl_u rfl (by omega) rfl) ⟨hv, nm_r (dl_u rfl (by omega) rfl) ⟨hv, nm_r (dl_u rfl (by omega) rfl) ⟨hv, nm_r (dl_u rfl (by omega) rfl) ?_⟩⟩⟩⟩⟩
      refine yre_t hN h4 h0 ht yk ?_ ?_
      · intro _ ⟨i, i0, hi, ik, ip⟩
        refine absurd ⟨?_, ?_⟩ (hn i i0 hi)
        · rw [← (HL i hi).1]; exact ik
        · rw [← (HL i hi).2.1]; exact ip
      · intro _
        exact ⟨rfl, dl_mk ⟨h4, hN, hD, hT, dl_L4 (dl_L3 (dl_L2 (dl_L1 (dl_L0 HL)))), dl_Tremove HT h0 hN ht hn, HE, HR⟩⟩
  · refine xc_f hN c ?_
    exact br_t rfl (yre_f hN (dl_ChY HL c) ⟨rfl, dl_mk R⟩)
/-! rename -/
section
variable {N D T : Nat} {ck sa : Int32} {yl yr ye dl ds db dd : Nat → Int32} {post : Int32 → SY → Prop} {p x2 x3 : Int32} {s t : Nat}
theorem yna_f (hN : N ≤ 16) (h : ¬ dl_Ch N (fun j => yl (j * 5)) p) (hp : post (-6) (nI N, nI D, ck, sa, nI T, yl, yr, ye, dl, ds, db, dd)) : wpY_rename post (nI N, nI D, ck, sa, nI T, yl, yr, ye, dl, ds, db, dd) p x2 x3 := yp_f hN h hp
theorem yna_d (hN : N ≤ 16) (h0 : 0 < t) (ht : t < N) (hk : yl (t * 5) ≠ 0) (h : ¬ ∃ j, j < N ∧ x2 = nI j ∧ yl (j * 5) = 2) (hp : post (-2) (nI N, nI D, ck, sa, nI T, yl, yr, ye, dl, ds, db, dd)) : wpY_rename post (nI N, nI D, ck, sa, nI T, yl, yr, ye, dl, ds, db, dd) (nI t) x2 x3 :=
  yp_t hN h0 ht hk (yd_f hN h (br_t rfl hp))
theorem yna_n (hN : N ≤ 16) (h0 : 0 < t) (ht : t < N) (hk : yl (t * 5) ≠ 0) (hs : s < N) (hd : yl (s * 5) = 2) (h : ¬ (¬ x3 < 1 ∧ ¬ 255 < x3)) (hp : post (-3) (nI N, nI D, ck, sa, nI T, yl, yr, ye, dl, ds, db, dd)) : wpY_rename post (nI N, nI D, ck, sa, nI T, yl, yr, ye, dl, ds, db, dd) (nI t) (nI s) x3 := by
  by_cases a : x3 < 1
  · exact yp_t hN h0 ht hk (yd_t hN hs hd (br_f dl_10 (br_t a hp)))
  · by_cases b : 255 < x3
    · exact yp_t hN h0 ht hk (yd_t hN hs hd (br_f dl_10 (br_f a (br_f (Int32.not_le.mpr b) hp))))
    · exact absurd ⟨a, b⟩ h
theorem yna_t (hN : N ≤ 16) (h0 : 0 < t) (ht : t < N) (hk : yl (t * 5) ≠ 0) (hs : s < N) (hd : yl (s * 5) = 2) (a : ¬ x3 < 1) (b : ¬ 255 < x3) (hw : ∃ n, wY_rename_59 post (nI t) (nI s) x3 (nI N) (nI D) ck sa (nI T) yl yr ye dl ds db dd n (nI s) 0) : wpY_rename post (nI N, nI D, ck, sa, nI T, yl, yr, ye, dl, ds, db, dd) (nI t) (nI s) x3 :=
  yp_t hN h0 ht hk (yd_t hN hs hd (br_f dl_10 (br_f a (br_t (Int32.not_lt.mp b) hw))))
theorem yna_w (hN : N ≤ 16) (h4 : 4 ≤ N) (ht : t < N) (hp4 : (∃ i, 0 < i ∧ i < N ∧ dl_Y yl x2 x3 (nI t) i) → post (-4) (nI N, nI D, ck, sa, nI T, yl, yr, ye, dl, ds, db, dd)) (hp0 : (∀ i, 0 < i → i < N → ¬ dl_Y yl x2 x3 (nI t) i) → post 0 (nI N, nI D, ck, sa, nI T, upd (upd yl (t * 5 + 1) x2) (t * 5 + 2) x3, yr, ye, dl, ds, db, dd)) : wY_rename_104 post (nI t) x2 x3 (nI N) (nI D) ck sa (nI T) yl yr ye dl ds db dd := by
  unfold wY_rename_104
  refine yf_a hN h4 ?_
  intro r hr
  rcases hr with ⟨rfl, hn⟩ | ⟨i, i0, hi, rfl, hm, hl⟩
  · exact br_t dl_m0 ⟨dl_v (dl_e5p t 1) (by omega) (by omega), nm_r (dl_u (dl_e5p t 1) (by omega) rfl) ⟨dl_v (dl_e5p t 2) (by omega) (by omega), nm_r (dl_u (dl_e5p t 2) (by omega) rfl) (hp0 hn)⟩⟩
  · exact br_f (nI_pos (by omega)) (hp4 ⟨i, i0, hi, hm⟩)
end
theorem dl_MYt {N j t : Nat} {dir nm : Int32} {lk lp ln lc ls yl : Nat → Int32} (HL : dl_L N lk lp ln lc ls yl) (hN : N ≤ 16) (hj : j < N) (ht : t < N) : (j ≠ t ∧ lk j ≠ 0 ∧ lp j = dir ∧ ln j = nm) ↔ dl_Y yl dir nm (nI t) j := by
  obtain ⟨a0, a1, a2, a3, a4⟩ := HL j hj
  unfold dl_Y
  rw [a0, a1, a2]
  exact ⟨fun h => ⟨fun e => h.1 ((nI_eq (by omega) (by omega)).mp e), h.2⟩, fun h => ⟨fun e => h.1 (congrArg nI e), h.2⟩⟩
theorem i_vc_rename {k : Nat} {u : SX} {v : SY} (I : i_Rel k u v) (hk : k + 4 ≤ 2050) (v1 : Int32) (v2 : Int32) (v3 : Int32) : wpX_rename (fun r u' => wpY_rename (fun r' v' => r' = r ∧ i_Rel (k + 4) u' v') v v1 v2 v3) u v1 v2 v3 := by
  obtain ⟨N, D, T, ck, sa, lk, lp, ln, lc, ls, dl, ds, db, dc, dd, ek, ep, en, ec, es, eg, rk, rp, rn, rc, rs, yl, yr, ye, rfl, rfl, R⟩ := I
  obtain ⟨h4, hN, hD, hT, HL, HT, HE, HR⟩ := id R
  unfold wpX_rename
  by_cases c : dl_Ch N lk v1
  · obtain ⟨t, h0, ht, rfl, hk⟩ := c
    have hv : vp_in (nI t) 16 := vp_in_nI (by omega) (by omega)
    have yk : yl (t * 5) ≠ 0 := by rw [(HL t ht).1]; exact hk
    refine xc_t hN h0 ht hk ?_
    refine br_f dl_10 ?_
    by_cases c2 : dl_Dr N lk v2
    · obtain ⟨s, hs, rfl, hd⟩ := c2
      have yd : yl (s * 5) = 2 := (HL s hs).1.trans hd
      refine xd_t hN hs hd ?_
      refine br_f dl_10 ?_
      by_cases n : ¬ v3 < 1 ∧ ¬ 255 < v3
      · refine xn_t n.1 n.2 ?_
        refine br_f dl_10 ?_
        have hl : ∀ i, i < N → (lp i).toNatClampNeg < N ∧ lp i = nI (lp i).toNatClampNeg := by
          intro i hi
          obtain ⟨j, hj, e⟩ := HT.2.2.1 i hi
          rw [e, nI_clamp (by omega)]
          exact ⟨hj, rfl⟩
        have f0 : (lp 0).toNatClampNeg = 0 := by
          rw [HT.2.1]
          decide +kernel
        refine xb_a (f := fun i => (lp i).toNatClampNeg) hN (fun i hi => (hl i hi).1) (fun i hi => (hl i hi).2) hs ht ?_ ?_
        · intro ⟨m, hm, e⟩
          refine br_f dl_10 ?_
          refine yna_t hN h0 ht yk hs yd n.1 n.2 ?_
          refine yn_a (f := fun i => (lp i).toNatClampNeg) hN (fun i hi => (hl i hi).1) f0 (fun i hi => (HL i hi).2.1.trans (hl i hi).2) hs ht h0 ?_ ?_
          · intro _
            exact ⟨rfl, dl_mk R⟩
          · intro hn
            exact absurd e (hn m (by omega))
        · intro hn
          have hn2 : ∀ m, m ≤ N → dl_it (fun i => (lp i).toNatClampNeg) s m ≠ t := by
            intro m hm
            by_cases z : m = N
            · rw [z]; exact dl_cyc (fun i hi => (hl i hi).1) hs ht hn
            · exact hn m (by omega)
          refine br_t rfl ?_
          refine xf_a hN ?_
          intro r hr
          have wr : (∀ j, 0 < j → j < N → (lk j ≠ 0 ∧ lp j = nI s ∧ ln j = v3) → j = t) → wX_rename_67 (fun r u' => wpY_rename (fun r' v' => r' = r ∧ i_Rel (k + 4) u' v') (nI N, nI D, ck, sa, nI T, yl, yr, ye, dl, ds, db, dd) (nI t) (nI s) v3) (nI t) (nI s) v3 (nI N) (nI D) ck (nI T) sa lk lp ln lc ls dl ds db dc dd ek ep en ec es eg rk rp rn rc rs := by
            intro hu
            refine ⟨hv, nm_r (dl_u rfl (by omega) rfl) ⟨hv, nm_r (dl_u rfl (by omega) rfl) ?_⟩⟩
            refine yna_t hN h0 ht yk hs yd n.1 n.2 ?_
            refine yn_a (f := fun i => (lp i).toNatClampNeg) hN (fun i hi => (hl i hi).1) f0 (fun i hi => (HL i hi).2.1.trans (hl i hi).2) hs ht h0 ?_ ?_
            · intro ⟨m, hm, e⟩
              exact absurd e (hn2 m hm)
            · intro _
              refine yna_w hN h4 ht ?_ ?_
              · intro ⟨i, i0, hi, hm⟩
                have hm2 := (dl_MYt HL hN hi ht).mpr hm
                exact absurd (hu i i0 hi hm2.2) hm2.1
              · intro _
                exact ⟨rfl, dl_mk ⟨h4, hN, hD, hT, dl_L2 (dl_L1 HL), dl_Trename HT h0 ht hs hd hu, HE, HR⟩⟩
          rcases hr with ⟨rfl, hf⟩ | ⟨j, j0, hj, rfl, hm, hlow⟩
          · exact br_t rfl (wr fun j j0 hj hm => absurd hm (hf j j0 hj))
          · by_cases jt : j = t
            · subst jt
              exact br_f (dl_m1 (by omega)) (br_t rfl (wr fun i i0 hi hm2 => HT.2.2.2.2 i j i0 hi j0 hj hm2.1 hm.1 (hm2.2.1.trans hm.2.1.symm) (hm2.2.2.trans hm.2.2.symm)))
            · refine br_f (dl_m1 (by omega)) (br_f (fun z => jt ((nI_eq (by omega) (by omega)).mp z)) ?_)
              refine yna_t hN h0 ht yk hs yd n.1 n.2 ?_
              refine yn_a (f := fun i => (lp i).toNatClampNeg) hN (fun i hi => (hl i hi).1) f0 (fun i hi => (HL i hi).2.1.trans (hl i hi).2) hs ht h0 ?_ ?_
              · intro ⟨m, hm, e⟩
                exact absurd e (hn2 m hm)
              · intro _
                refine yna_w hN h4 ht ?_ ?_
                · intro _
                  exact ⟨rfl, dl_mk R⟩
                · intro hno
                  exact absurd ((dl_MYt HL hN hj ht).mp ⟨jt, hm⟩) (hno j j0 hj)
      · refine xn_f n ?_
        exact br_t rfl (yna_n hN h0 ht yk hs yd n ⟨rfl, dl_mk R⟩)
    · refine xd_f hN c2 ?_
      exact br_t rfl (yna_d hN h0 ht yk (dl_DrY HL c2) ⟨rfl, dl_mk R⟩)
  · refine xc_f hN c ?_
    exact br_t rfl (yna_f hN (dl_ChY HL c) ⟨rfl, dl_mk R⟩)
end
section
/-! questions about dumps -/
theorem dl_E6 {p w : Nat} {ek ep en ec es eg ye : Nat → Int32} (h : dl_E1 p ek ep en ec es eg ye) (hw : w ≤ 4) : (w = 0 ∧ ye (p * 6 + w) = ek p) ∨ (w = 1 ∧ ye (p * 6 + w) = ep p) ∨ (w = 2 ∧ ye (p * 6 + w) = en p) ∨ (w = 3 ∧ ye (p * 6 + w) = ec p) ∨ (w = 4 ∧ ye (p * 6 + w) = es p) := by
  obtain ⟨a0, a1, a2, a3, a4, a5, a6⟩ := h
  have h : w = 0 ∨ w = 1 ∨ w = 2 ∨ w = 3 ∨ w = 4 := by omega
  rcases h with rfl | rfl | rfl | rfl | rfl
  · exact Or.inl ⟨rfl, a0⟩
  · exact Or.inr (Or.inl ⟨rfl, a1⟩)
  · exact Or.inr (Or.inr (Or.inl ⟨rfl, a2⟩))
  · exact Or.inr (Or.inr (Or.inr (Or.inl ⟨rfl, a3⟩)))
  · exact Or.inr (Or.inr (Or.inr (Or.inr ⟨rfl, a4⟩)))
theorem xx_a {post : Int32 → Prop} {d i : Nat} (hp : post (nI (d * 16 + i))) : wpX_entryIndex post (nI d) (nI i) := by
  unfold wpX_entryIndex
  rw [dl_e16]
  exact hp
section
variable {N D T : Nat} {ck sa : Int32} {yl yr ye dl ds db dd : Nat → Int32} {post : Int32 → Prop} {p q w : Int32} {d i : Nat}
theorem ye_d (hT : T ≤ 8) (h : ¬ dl_In T p) (hp : post (-1)) : wpY_dumpEntry post (nI N, nI D, ck, sa, nI T, yl, yr, ye, dl, ds, db, dd) p q w := by
  rcases dl_In_c (by omega) h with a | ⟨a, b⟩
  · exact br_t a hp
  · exact br_f a (br_t b hp)
theorem ye_i (hN : N ≤ 16) (hT : T ≤ 8) (hd : d < T) (h : ¬ dl_In N q) (hp : post (-1)) : wpY_dumpEntry post (nI N, nI D, ck, sa, nI T, yl, yr, ye, dl, ds, db, dd) (nI d) q w := by
  rcases dl_In_c (by omega) h with a | ⟨a, b⟩
  · exact br_f (nI_pos (by omega)) (br_f (nI_ge hd (by omega)) (br_t a hp))
  · exact br_f (nI_pos (by omega)) (br_f (nI_ge hd (by omega)) (br_f a (br_t b hp)))
theorem ye_w (hN : N ≤ 16) (hT : T ≤ 8) (hd : d < T) (hi : i < N) (h : w < 0 ∨ (¬ w < 0 ∧ nI 5 < w)) (hp : post (-1)) : wpY_dumpEntry post (nI N, nI D, ck, sa, nI T, yl, yr, ye, dl, ds, db, dd) (nI d) (nI i) w := by
  rcases h with a | ⟨a, b⟩
  · exact br_f (nI_pos (by omega)) (br_f (nI_ge hd (by omega)) (br_f (nI_pos (by omega)) (br_f (nI_ge hi (by omega)) (br_t a hp))))
  · exact br_f (nI_pos (by omega)) (br_f (nI_ge hd (by omega)) (br_f (nI_pos (by omega)) (br_f (nI_ge hi (by omega)) (br_f a (br_f (Int32.not_le.mpr b) hp)))))
theorem ye_t {m : Nat} (hN : N ≤ 16) (hT : T ≤ 8) (hd : d < T) (hi : i < N) (hm : m ≤ 5) (hp : post (ye ((d * 16 + i) * 6 + m))) : wpY_dumpEntry post (nI N, nI D, ck, sa, nI T, yl, yr, ye, dl, ds, db, dd) (nI d) (nI i) (nI m) := by
  refine br_f (nI_pos (by omega)) (br_f (nI_ge hd (by omega)) (br_f (nI_pos (by omega)) (br_f (nI_ge hi (by omega)) (br_f (nI_pos (by omega)) (br_t (nI_le (b := 5) hm (by decide)) ⟨dl_v (dl_e6p d i m) (by omega) (by omega), ?_⟩)))))
  rw [dl_c ye (dl_e6p d i m) (by omega)]
  exact hp
theorem yu_l (hN : N ≤ 16) (hd : d < 8) (hp : post (dl_ct (fun p => ye (p * 6 + 5)) (d * 16) N)) : ∀ n i : Nat, i + n = N → wY_dumpInfo_63 post (nI d) (nI N) (nI D) ck sa (nI T) yl yr ye dl ds db dd (n + 1) (dl_ct (fun p => ye (p * 6 + 5)) (d * 16) i) (nI i) := by
  intro n
  induction n with
  | zero =>
    intro i hi
    have e : i = N := by omega
    subst e
    exact br_t (nI_le (by omega) (by omega)) hp
  | succ n ih =>
    intro i hi
    have hc : ¬ nI N ≤ nI i := nI_ge (by omega) (by omega)
    have h := ih (i + 1) (by omega)
    by_cases c : ye ((d * 16 + i) * 6 + 5) = 1
    · have e : dl_ct (fun p => ye (p * 6 + 5)) (d * 16) (i + 1) = dl_ct (fun p => ye (p * 6 + 5)) (d * 16) i + 1 := if_pos c
      rw [e] at h
      exact br_f hc ⟨dl_v (dl_e6p d i 5) (by omega) (by omega), br_t ((dl_c ye (dl_e6p d i 5) (by omega)).trans c) (nm_e (nm_r (nI_1 i) h))⟩
    · have e : dl_ct (fun p => ye (p * 6 + 5)) (d * 16) (i + 1) = dl_ct (fun p => ye (p * 6 + 5)) (d * 16) i := if_neg c
      rw [e] at h
      exact br_f hc ⟨dl_v (dl_e6p d i 5) (by omega) (by omega), br_f (fun z => c ((dl_c ye (dl_e6p d i 5) (by omega)).symm.trans z)) (nm_r (nI_1 i) h)⟩
theorem yu_a (hN : N ≤ 16) (hd : d < 8) (hp : post (dl_ct (fun p => ye (p * 6 + 5)) (d * 16) N)) : ∃ n, wY_dumpInfo_63 post (nI d) (nI N) (nI D) ck sa (nI T) yl yr ye dl ds db dd n 0 0 :=
  ⟨N + 1, yu_l hN hd hp N 0 (by omega)⟩
theorem yv_d (hT : T ≤ 8) (h : ¬ dl_In T p) (hp : post (-1)) : wpY_dumpInfo post (nI N, nI D, ck, sa, nI T, yl, yr, ye, dl, ds, db, dd) p q := by
  rcases dl_In_c (by omega) h with a | ⟨a, b⟩
  · exact br_t a hp
  · exact br_f a (br_t b hp)
theorem yv_w (hT : T ≤ 8) (hd : d < T) (h : q < 0 ∨ (¬ q < 0 ∧ nI 3 < q)) (hp : post (-1)) : wpY_dumpInfo post (nI N, nI D, ck, sa, nI T, yl, yr, ye, dl, ds, db, dd) (nI d) q := by
  rcases h with a | ⟨a, b⟩
  · exact br_f (nI_pos (by omega)) (br_f (nI_ge hd (by omega)) (br_t a hp))
  · exact br_f (nI_pos (by omega)) (br_f (nI_ge hd (by omega)) (br_f a (br_f (Int32.not_le.mpr b) hp)))
theorem yv_0 (hT : T ≤ 8) (hd : d < T) (hp : post (dl d)) : wpY_dumpInfo post (nI N, nI D, ck, sa, nI T, yl, yr, ye, dl, ds, db, dd) (nI d) (nI 0) := by
  refine br_f (nI_pos (by omega)) (br_f (nI_ge hd (by omega)) (br_f (nI_pos (by omega)) (br_t (nI_le (b := 3) (by omega) (by decide)) (br_t rfl ⟨vp_in_nI (by omega) (by omega), ?_⟩))))
  rw [dl_c dl rfl (by omega)]
  exact hp
theorem yv_1 (hT : T ≤ 8) (hd : d < T) (hp : post (ds d)) : wpY_dumpInfo post (nI N, nI D, ck, sa, nI T, yl, yr, ye, dl, ds, db, dd) (nI d) (nI 1) := by
  refine br_f (nI_pos (by omega)) (br_f (nI_ge hd (by omega)) (br_f (nI_pos (by omega)) (br_t (nI_le (b := 3) (by omega) (by decide)) (br_f (by decide +kernel) (br_t rfl ⟨vp_in_nI (by omega) (by omega), ?_⟩)))))
  rw [dl_c ds rfl (by omega)]
  exact hp
theorem yv_2 (hT : T ≤ 8) (hd : d < T) (hp : post (db d)) : wpY_dumpInfo post (nI N, nI D, ck, sa, nI T, yl, yr, ye, dl, ds, db, dd) (nI d) (nI 2) := by
  refine br_f (nI_pos (by omega)) (br_f (nI_ge hd (by omega)) (br_f (nI_pos (by omega)) (br_t (nI_le (b := 3) (by omega) (by decide)) (br_f (by decide +kernel) (br_f (by decide +kernel) (br_t rfl ⟨vp_in_nI (by omega) (by omega), ?_⟩))))))
  rw [dl_c db rfl (by omega)]
  exact hp
theorem yv_3 (hN : N ≤ 16) (hT : T ≤ 8) (hd : d < T) (hp : post (dl_ct (fun p => ye (p * 6 + 5)) (d * 16) N)) : wpY_dumpInfo post (nI N, nI D, ck, sa, nI T, yl, yr, ye, dl, ds, db, dd) (nI d) (nI 3) :=
  br_f (nI_pos (by omega)) (br_f (nI_ge hd (by omega)) (br_f (nI_pos (by omega)) (br_t (nI_le (b := 3) (by omega) (by decide)) (br_f (by decide +kernel) (br_f (by decide +kernel) (br_f (by decide +kernel) (yu_a hN (by omega) hp)))))))
end
theorem i_vc_dumpInfo {k : Nat} {u : SX} {v : SY} (I : i_Rel k u v) (hk : k + 4 ≤ 2050) (v1 : Int32) (v2 : Int32) : wpX_dumpInfo (fun r => wpY_dumpInfo (fun r' => r' = r ∧ i_Rel (k + 4) u v) v v1 v2) u v1 v2 := by
  obtain ⟨N, D, T, ck, sa, lk, lp, ln, lc, ls, dl, ds, db, dc, dd, ek, ep, en, ec, es, eg, rk, rp, rn, rc, rs, yl, yr, ye, rfl, rfl, R⟩ := I
  obtain ⟨h4, hN, hD, hT, HL, HT, HE, HR⟩ := id R
  have hT8 : T ≤ 8 := by omega
  unfold wpX_dumpInfo
  by_cases c : dl_In T v1
  · obtain ⟨d, hd, rfl⟩ := c
    have hv : vp_in (nI d) 8 := vp_in_nI (by omega) (by omega)
    have e : (nI d).toNatClampNeg = d := nI_clamp (by omega)
    refine xk_t hT8 hd ?_
    refine br_f dl_10 ?_
    rcases dl_wc v2 3 (by omega) with h | h | ⟨w, hw, rfl⟩
    · exact br_t h (yv_w hT8 hd (Or.inl h) ⟨rfl, dl_mk R⟩)
    · exact br_f h.1 (br_t h.2 (yv_w hT8 hd (Or.inr h) ⟨rfl, dl_mk R⟩))
    · refine br_f (nI_pos (by omega)) (br_f (nI_nlt (b := w) (a := 3) hw (by omega)) ?_)
      have h : w = 0 ∨ w = 1 ∨ w = 2 ∨ w = 3 := by omega
      rcases h with rfl | rfl | rfl | rfl
      · refine br_t rfl ⟨hv, ?_⟩
        rw [e]
        exact yv_0 hT8 hd ⟨rfl, dl_mk R⟩
      · refine br_f (by decide +kernel) (br_t rfl ⟨hv, ?_⟩)
        rw [e]
        exact yv_1 hT8 hd ⟨rfl, dl_mk R⟩
      · refine br_f (by decide +kernel) (br_f (by decide +kernel) (br_t rfl ⟨hv, ?_⟩))
        rw [e]
        exact yv_2 hT8 hd ⟨rfl, dl_mk R⟩
      · refine br_f (by decide +kernel) (br_f (by decide +kernel) (br_f (by decide +kernel) (br_t rfl ⟨hv, ?_⟩)))
        rw [e]
        refine yv_3 hN hT8 hd ⟨?_, dl_mk R⟩
        rw [(HE.1 d hd).1]
        exact dl_ctc N fun i hi => ((HE.1 d hd).2 i hi).2.2.2.2.2.1
  · refine xk_f hT8 c ?_
    exact br_t rfl (yv_d hT8 c ⟨rfl, dl_mk R⟩)
theorem i_vc_dumpEntry {k : Nat} {u : SX} {v : SY} (I : i_Rel k u v) (hk : k + 4 ≤ 2050) (v1 : Int32) (v2 : Int32) (v3 : Int32) : wpX_dumpEntry (fun r => wpY_dumpEntry (fun r' => r' = r ∧ i_Rel (k + 4) u v) v v1 v2 v3) u v1 v2 v3 := by
  obtain ⟨N, D, T, ck, sa, lk, lp, ln, lc, ls, dl, ds, db, dc, dd, ek, ep, en, ec, es, eg, rk, rp, rn, rc, rs, yl, yr, ye, rfl, rfl, R⟩ := I
  obtain ⟨h4, hN, hD, hT, HL, HT, HE, HR⟩ := id R
  have hT8 : T ≤ 8 := by omega
  unfold wpX_dumpEntry
  by_cases c : dl_In T v1
  · obtain ⟨d, hd, rfl⟩ := c
    refine xk_t hT8 hd ?_
    refine br_f dl_10 ?_
    by_cases c2 : dl_In N v2
    · obtain ⟨i, hi, rfl⟩ := c2
      have hv : vp_in (nI (d * 16 + i)) 128 := vp_in_nI (by omega) (by omega)
      have e : (nI (d * 16 + i)).toNatClampNeg = d * 16 + i := nI_clamp (by omega)
      have hE := (HE.1 d hd).2 i hi
      refine xi_t hN hi ?_
      refine br_f dl_10 ?_
      refine xx_a ?_
      by_cases k5 : v3 = 5
      · subst k5
        refine br_t rfl ⟨hv, ?_⟩
        rw [e]
        exact ye_t (m := 5) hN hT8 hd hi (by omega) ⟨hE.2.2.2.2.2.1, dl_mk R⟩
      · refine br_f k5 ⟨hv, hv, hv, hv, hv, ?_⟩
        rcases dl_wc v3 4 (by omega) with h | ⟨h, h2⟩ | ⟨w, hw, rfl⟩
        · exact xq_f (Or.inl h) (ye_w hN hT8 hd hi (Or.inl h) ⟨rfl, dl_mk R⟩)
        · refine xq_f (Or.inr ⟨h, h2⟩) (ye_w hN hT8 hd hi (Or.inr ⟨h, ?_⟩) ⟨rfl, dl_mk R⟩)
          obtain ⟨m, hm, rfl⟩ := nI_of h
          rw [nI_ltI (by omega) hm] at h2
          have m5 : m ≠ 5 := fun z => k5 (by rw [z]; rfl)
          exact nI_lt (by omega) hm
        · refine xq_a w hw (r := ye ((d * 16 + i) * 6 + w)) ?_ ?_
          · rw [e]; exact dl_E6 hE hw
          · exact ye_t hN hT8 hd hi (by omega) ⟨rfl, dl_mk R⟩
    · refine xi_f hN c2 ?_
      exact br_t rfl (ye_i hN hT8 hd c2 ⟨rfl, dl_mk R⟩)
  · refine xk_f hT8 c ?_
    exact br_t rfl (ye_d hT8 c ⟨rfl, dl_mk R⟩)
end
section
/-! dump: the base -/
def dl_mx (dd : Nat → Int32) : Nat → Int32
  | 0 => 0
  | n + 1 => if dd n ≤ dl_mx dd n then dl_mx dd n else dd n
section
variable {N D T : Nat} {ck sa : Int32} {lk lp ln lc ls dl ds db dc dd ek ep en ec es eg rk rp rn rc rs : Nat → Int32} {post : Int32 → Prop} {l : Nat}
theorem xm_l (hl : l ≤ 10) (hp : post (dl_mx dd l)) : ∀ n i : Nat, i + n = l → wX_latestDateBelow_4 post (nI l) (nI N) (nI D) ck (nI T) sa lk lp ln lc ls dl ds db dc dd ek ep en ec es eg rk rp rn rc rs (n + 1) (dl_mx dd i) (nI i) := by
  intro n
  induction n with
  | zero =>
    intro i hi
    have e : i = l := by omega
    subst e
    exact br_t (nI_le (by omega) (by omega)) hp
  | succ n ih =>
    intro i hi
    have hc : ¬ nI l ≤ nI i := nI_ge (by omega) (by omega)
    have hv : vp_in (nI i) 10 := vp_in_nI (by omega) (by omega)
    have h := ih (i + 1) (by omega)
    by_cases c : dd i ≤ dl_mx dd i
    · have e : dl_mx dd (i + 1) = dl_mx dd i := if_pos c
      rw [e] at h
      exact br_f hc ⟨hv, br_t (by rw [dl_c dd rfl (by omega)]; exact c) (nm_r (nI_1 i) h)⟩
    · have e : dl_mx dd (i + 1) = dd i := if_neg c
      rw [e] at h
      exact br_f hc ⟨hv, br_f (by rw [dl_c dd rfl (by omega)]; exact c) ⟨hv, nm_r (dl_c dd rfl (by omega)) (nm_r (nI_1 i) h)⟩⟩
theorem xm_a (hl : l ≤ 10) (hp : post (dl_mx dd l)) : wpX_latestDateBelow post (nI N, nI D, ck, nI T, sa, lk, lp, ln, lc, ls, dl, ds, db, dc, dd, ek, ep, en, ec, es, eg, rk, rp, rn, rc, rs) (nI l) :=
  ⟨l + 1, xm_l hl hp l 0 (by omega)⟩
end
section
variable {N D T : Nat} {ck sa : Int32} {yl yr ye dl ds db dd : Nat → Int32} {post : Int32 → SY → Prop} {l : Nat}
theorem ym_l (hl : l ≤ 10) (hp : ∃ n, wY_dump_77 post (nI l) (dl_mx dd l) (nI T) (nI N) (nI D) ck sa (nI T) n 0 yl yr ye dl ds db dd) : ∀ n i : Nat, i + n = l → wY_dump_41 post (nI l) (nI N) (nI D) ck sa (nI T) yl yr ye dl ds db dd (n + 1) (dl_mx dd i) (nI i) := by
  intro n
  induction n with
  | zero =>
    intro i hi
    have e : i = l := by omega
    subst e
    exact br_t (nI_le (by omega) (by omega)) hp
  | succ n ih =>
    intro i hi
    have hc : ¬ nI l ≤ nI i := nI_ge (by omega) (by omega)
    have hv : vp_in (nI i) 10 := vp_in_nI (by omega) (by omega)
    have h := ih (i + 1) (by omega)
    by_cases c : dd i ≤ dl_mx dd i
    · have e : dl_mx dd (i + 1) = dl_mx dd i := if_pos c
      rw [e] at h
      exact br_f hc ⟨hv, br_t (by rw [dl_c dd rfl (by omega)]; exact c) (nm_r (nI_1 i) h)⟩
    · have e : dl_mx dd (i + 1) = dd i := if_neg c
      rw [e] at h
      exact br_f hc ⟨hv, br_f (by rw [dl_c dd rfl (by omega)]; exact c) ⟨hv, nm_r (dl_c dd rfl (by omega)) (nm_r (nI_1 i) h)⟩⟩
theorem ym_a (hl : l ≤ 10) (hp : ∃ n, wY_dump_77 post (nI l) (dl_mx dd l) (nI T) (nI N) (nI D) ck sa (nI T) n 0 yl yr ye dl ds db dd) : ∃ n, wY_dump_41 post (nI l) (nI N) (nI D) ck sa (nI T) yl yr ye dl ds db dd n 0 0 :=
  ⟨l + 1, ym_l hl hp l 0 (by omega)⟩
end
/-! dump: the component records -/
def dl_nw (lk ls : Nat → Int32) (b : Int32) (i : Nat) : Prop := 0 < i ∧ lk i ≠ 0 ∧ ¬ ls i ≤ b
def dl_S1 (q : Nat) (lk lp ln lc ls : Nat → Int32) (b : Int32) (ek ep en ec es eg : Nat → Int32) (i : Nat) : Prop := ek (q + i) = lk i ∧ ep (q + i) = lp i ∧ en (q + i) = ln i ∧ (dl_nw lk ls b i → ec (q + i) = lc i ∧ es (q + i) = ls i ∧ eg (q + i) = 1) ∧ (¬ dl_nw lk ls b i → ec (q + i) = 0 ∧ es (q + i) = 0 ∧ eg (q + i) = 0)
def dl_S (q i : Nat) (lk lp ln lc ls : Nat → Int32) (b : Int32) (ek ep en ec es eg ek' ep' en' ec' es' eg' : Nat → Int32) : Prop := (∀ m, m < i → dl_S1 q lk lp ln lc ls b ek' ep' en' ec' es' eg' m) ∧ (∀ p, q + i ≤ p → ec' p = 0 ∧ es' p = 0 ∧ eg' p = 0) ∧ (∀ p, p < q → ek' p = ek p ∧ ep' p = ep p ∧ en' p = en p ∧ ec' p = ec p ∧ es' p = es p ∧ eg' p = eg p)
theorem dl_Sn {q i : Nat} {b : Int32} {lk lp ln lc ls ek ep en ec es eg ek' ep' en' ec' es' eg' : Nat → Int32} (h : dl_S q i lk lp ln lc ls b ek ep en ec es eg ek' ep' en' ec' es' eg') (hn : ¬ dl_nw lk ls b i) : dl_S q (i + 1) lk lp ln lc ls b ek ep en ec es eg (upd ek' (q + i) (lk i)) (upd ep' (q + i) (lp i)) (upd en' (q + i) (ln i)) ec' es' eg' := by
  obtain ⟨h1, h2, h3⟩ := h
  refine ⟨?_, ?_, ?_⟩
  · intro m hm
    by_cases z : m = i
    · subst z
      exact ⟨pk_us, pk_us, pk_us, fun w => absurd w hn, fun _ => h2 _ (by omega)⟩
    · obtain ⟨a0, a1, a2, a3, a4⟩ := h1 m (by omega)
      refine ⟨?_, ?_, ?_, a3, a4⟩
      · rw [pk_un (by omega)]; exact a0
      · rw [pk_un (by omega)]; exact a1
      · rw [pk_un (by omega)]; exact a2
  · intro p hp
    exact h2 p (by omega)
  · intro p hp
    obtain ⟨a0, a1, a2, a3, a4, a5⟩ := h3 p hp
    refine ⟨?_, ?_, ?_, a3, a4, a5⟩
    · rw [pk_un (by omega)]; exact a0
    · rw [pk_un (by omega)]; exact a1
    · rw [pk_un (by omega)]; exact a2
theorem dl_Sy {q i : Nat} {b : Int32} {lk lp ln lc ls ek ep en ec es eg ek' ep' en' ec' es' eg' : Nat → Int32} (h : dl_S q i lk lp ln lc ls b ek ep en ec es eg ek' ep' en' ec' es' eg') (hn : dl_nw lk ls b i) : dl_S q (i + 1) lk lp ln lc ls b ek ep en ec es eg (upd ek' (q + i) (lk i)) (upd ep' (q + i) (lp i)) (upd en' (q + i) (ln i)) (upd ec' (q + i) (lc i)) (upd es' (q + i) (ls i)) (upd eg' (q + i) 1) := by
  obtain ⟨h1, h2, h3⟩ := h
  refine ⟨?_, ?_, ?_⟩
  · intro m hm
    by_cases z : m = i
    · subst z
      exact ⟨pk_us, pk_us, pk_us, fun _ => ⟨pk_us, pk_us, pk_us⟩, fun w => absurd hn w⟩
    · obtain ⟨a0, a1, a2, a3, a4⟩ := h1 m (by omega)
      refine ⟨?_, ?_, ?_, ?_, ?_⟩
      · rw [pk_un (by omega)]; exact a0
      · rw [pk_un (by omega)]; exact a1
      · rw [pk_un (by omega)]; exact a2
      · rw [pk_un (by omega), pk_un (by omega), pk_un (by omega)]; exact a3
      · rw [pk_un (by omega), pk_un (by omega), pk_un (by omega)]; exact a4
  · intro p hp
    rw [pk_un (by omega), pk_un (by omega), pk_un (by omega)]
    exact h2 p (by omega)
  · intro p hp
    rw [pk_un (by omega), pk_un (by omega), pk_un (by omega), pk_un (by omega), pk_un (by omega), pk_un (by omega)]
    exact h3 p hp
section
variable {N D T : Nat} {ck sa : Int32} {lk lp ln lc ls dl ds db dc dd ek ep en ec es eg rk rp rn rc rs : Nat → Int32} {post : Int32 → SX → Prop}
theorem xr_l (hN : N ≤ 16) (hT : T < 8) (hp : ∀ ek' ep' en' ec' es' eg' : Nat → Int32, dl_S (T * 16) N lk lp ln lc ls (db T) ek ep en ec es eg ek' ep' en' ec' es' eg' → post (dl_ct eg' (T * 16) N) (nI N, nI D, ck, nI T, sa, lk, lp, ln, lc, ls, dl, ds, db, dc, dd, ek', ep', en', ec', es', eg', rk, rp, rn, rc, rs)) : ∀ (n i : Nat) (ek' ep' en' ec' es' eg' : Nat → Int32), i + n = N → dl_S (T * 16) i lk lp ln lc ls (db T) ek ep en ec es eg ek' ep' en' ec' es' eg' → wX_recordEntries_4 post (nI T) (nI N) (nI D) ck (nI T) sa (n + 1) (dl_ct eg' (T * 16) i) (nI i) lk lp ln lc ls dl ds db dc dd ek' ep' en' ec' es' eg' rk rp rn rc rs := by
  intro n
  induction n with
  | zero =>
    intro i ek' ep' en' ec' es' eg' hi h
    have e : i = N := by omega
    subst e
    exact br_t (nI_le (by omega) (by omega)) (hp _ _ _ _ _ _ h)
  | succ n ih =>
    intro i ek' ep' en' ec' es' eg' hi h
    have hc : ¬ nI N ≤ nI i := nI_ge (by omega) (by omega)
    have hv : vp_in (nI i) 16 := vp_in_nI (by omega) (by omega)
    have hw : vp_in (nI (T * 16 + i)) 128 := vp_in_nI (by omega) (by omega)
    have h8 : vp_in (nI T) 8 := vp_in_nI (by omega) (by omega)
    refine br_f hc (xx_a ?_)
    refine ⟨hv, hw, nm_r (dl_u rfl (by omega) (dl_c lk rfl (by omega))) ⟨hv, hw, nm_r (dl_u rfl (by omega) (dl_c lp rfl (by omega))) ⟨hv, hw, nm_r (dl_u rfl (by omega) (dl_c ln rfl (by omega))) ⟨h8, ?_⟩⟩⟩⟩
    rw [dl_c db rfl (by omega)]
    by_cases c : dl_nw lk ls (db T) i
    · refine xw_t hN c.1 (by omega) c.2.1 c.2.2 ?_
      refine br_f dl_10 ⟨hv, hw, nm_r (dl_u rfl (by omega) (dl_c lc rfl (by omega))) ⟨hv, hw, nm_r (dl_u rfl (by omega) (dl_c ls rfl (by omega))) ⟨hw, nm_r (dl_u rfl (by omega) rfl) ?_⟩⟩⟩
      have e : dl_ct (upd eg' (T * 16 + i) 1) (T * 16) (i + 1) = dl_ct eg' (T * 16) i + 1 := by
        have e1 : dl_ct (upd eg' (T * 16 + i) 1) (T * 16) i = dl_ct eg' (T * 16) i := dl_ctc i fun m hm => pk_un (by omega)
        show (if upd eg' (T * 16 + i) 1 (T * 16 + i) = 1 then dl_ct (upd eg' (T * 16 + i) 1) (T * 16) i + 1 else dl_ct (upd eg' (T * 16 + i) 1) (T * 16) i) = _
        rw [if_pos pk_us, e1]
      have g := ih (i + 1) _ _ _ _ _ _ (by omega) (dl_Sy h c)
      rw [e] at g
      exact nm_e (nm_r (nI_1 i) g)
    · refine xw_f hN (by omega) c ?_
      have e : dl_ct eg' (T * 16) (i + 1) = dl_ct eg' (T * 16) i := by
        have e0 : ¬ eg' (T * 16 + i) = 1 := by
          rw [(h.2.1 _ (Nat.le_refl _)).2.2]
          decide
        exact if_neg e0
      have g := ih (i + 1) _ _ _ _ _ _ (by omega) (dl_Sn h c)
      rw [e] at g
      exact br_t rfl (nm_r (nI_1 i) g)
theorem xr_a (hN : N ≤ 16) (hT : T < 8) (hz : ∀ p, T * 16 ≤ p → ec p = 0 ∧ es p = 0 ∧ eg p = 0) (hp : ∀ ek' ep' en' ec' es' eg' : Nat → Int32, dl_S (T * 16) N lk lp ln lc ls (db T) ek ep en ec es eg ek' ep' en' ec' es' eg' → post (dl_ct eg' (T * 16) N) (nI N, nI D, ck, nI T, sa, lk, lp, ln, lc, ls, dl, ds, db, dc, dd, ek', ep', en', ec', es', eg', rk, rp, rn, rc, rs)) : wpX_recordEntries post (nI N, nI D, ck, nI T, sa, lk, lp, ln, lc, ls, dl, ds, db, dc, dd, ek, ep, en, ec, es, eg, rk, rp, rn, rc, rs) (nI T) :=
  ⟨N + 1, xr_l hN hT hp N 0 ek ep en ec es eg (by omega) ⟨fun m hm => absurd hm (by omega), fun p hp => hz p (by omega), fun p _ => ⟨rfl, rfl, rfl, rfl, rfl, rfl⟩⟩⟩
end
/-! dump: the reference records -/
def dl_Q1 (q : Nat) (yl : Nat → Int32) (b : Int32) (ye : Nat → Int32) (i : Nat) : Prop := ye ((q + i) * 6) = yl (i * 5) ∧ ye ((q + i) * 6 + 1) = yl (i * 5 + 1) ∧ ye ((q + i) * 6 + 2) = yl (i * 5 + 2) ∧ (dl_nw (fun j => yl (j * 5)) (fun j => yl (j * 5 + 4)) b i → ye ((q + i) * 6 + 3) = yl (i * 5 + 3) ∧ ye ((q + i) * 6 + 4) = yl (i * 5 + 4) ∧ ye ((q + i) * 6 + 5) = 1) ∧ (¬ dl_nw (fun j => yl (j * 5)) (fun j => yl (j * 5 + 4)) b i → ye ((q + i) * 6 + 3) = 0 ∧ ye ((q + i) * 6 + 4) = 0 ∧ ye ((q + i) * 6 + 5) = 0)
def dl_Z (N q i : Nat) (yl : Nat → Int32) (b : Int32) (ye ye' : Nat → Int32) : Prop := (∀ p, p < (q + i) * 6 → ye' p = ye p) ∧ (i < N → dl_Q1 q yl b ye' i)
section
variable {N D T : Nat} {ck sa : Int32} {yl yr ye dl ds db dd : Nat → Int32} {post : Int32 → SY → Prop} {J : Int32 → (Nat → Int32) → (Nat → Int32) → (Nat → Int32) → (Nat → Int32) → (Nat → Int32) → (Nat → Int32) → (Nat → Int32) → Prop} {x1 x2 x3 : Int32}
theorem y9_s {i r f n : Nat} (hr : r ≤ 762) (hf : f < 6) (h : wY_dump_99 post J x1 x2 x3 (nI i) (nI r) (nI N) (nI D) ck sa (nI T) n (nI (f + 1)) yl yr (upd ye (r + f) 0) dl ds db dd) : wY_dump_99 post J x1 x2 x3 (nI i) (nI r) (nI N) (nI D) ck sa (nI T) (n + 1) (nI f) yl yr ye dl ds db dd :=
  br_f (nI_ge (b := 6) hf (by decide)) ⟨dl_v (nI_add r f) (by omega) (by omega), nm_r (dl_u (nI_add r f) (by omega) rfl) (nm_r (nI_1 f) h)⟩
theorem y9_e {i q n : Nat} (hN : N ≤ 16) (hi : i < 16) (hq : q ≤ 112) (h6 : ∀ p, (q + i) * 6 ≤ p → p < (q + i) * 6 + 6 → ye p = 0) (hJ : ∀ ye', dl_Z N q i yl x2 ye ye' → J (nI (i + 1)) yl yr ye' dl ds db dd) : wY_dump_99 post J x1 x2 x3 (nI i) (nI ((q + i) * 6)) (nI N) (nI D) ck sa (nI T) (n + 1) (nI 6) yl yr ye dl ds db dd := by
  have z6 : (6 : Int32) ≤ nI 6 := nI_le (a := 6) (b := 6) (by omega) (by omega)
  by_cases c : N ≤ i
  · exact br_t z6 (br_t (nI_le c (by omega)) (nm_r (nI_1 i) (hJ ye ⟨fun p _ => rfl, fun w => absurd w (by omega)⟩)))
  · have hc : ¬ nI N ≤ nI i := nI_ge (by omega) (by omega)
    have v0 : vp_in (nI i * 5) 80 := dl_v (dl_e5 i) (by omega) (by omega)
    have v1 : vp_in (nI i * 5 + 1) 80 := dl_v (dl_e5p i 1) (by omega) (by omega)
    have v2 : vp_in (nI i * 5 + 2) 80 := dl_v (dl_e5p i 2) (by omega) (by omega)
    have v3 : vp_in (nI i * 5 + 3) 80 := dl_v (dl_e5p i 3) (by omega) (by omega)
    have v4 : vp_in (nI i * 5 + 4) 80 := dl_v (dl_e5p i 4) (by omega) (by omega)
    have w0 : vp_in (nI ((q + i) * 6)) 768 := vp_in_nI (by omega) (by omega)
    have w1 : vp_in (nI ((q + i) * 6) + 1) 768 := dl_v (nI_add _ 1) (by omega) (by omega)
    have w2 : vp_in (nI ((q + i) * 6) + 2) 768 := dl_v (nI_add _ 2) (by omega) (by omega)
    have w3 : vp_in (nI ((q + i) * 6) + 3) 768 := dl_v (nI_add _ 3) (by omega) (by omega)
    have w4 : vp_in (nI ((q + i) * 6) + 4) 768 := dl_v (nI_add _ 4) (by omega) (by omega)
    have w5 : vp_in (nI ((q + i) * 6) + 5) 768 := dl_v (nI_add _ 5) (by omega) (by omega)
    refine br_t z6 (br_f hc ⟨v0, w0, nm_r (dl_u rfl (by omega) (dl_c yl (dl_e5 i) (by omega))) ⟨v1, w1, nm_r (dl_u (nI_add _ 1) (by omega) (dl_c yl (dl_e5p i 1) (by omega))) ⟨v2, w2, nm_r (dl_u (nI_add _ 2) (by omega) (dl_c yl (dl_e5p i 2) (by omega))) ?_⟩⟩⟩)
    have no : ¬ dl_nw (fun j => yl (j * 5)) (fun j => yl (j * 5 + 4)) x2 i → J (nI (i + 1)) yl yr (upd (upd (upd ye ((q + i) * 6) (yl (i * 5))) ((q + i) * 6 + 1) (yl (i * 5 + 1))) ((q + i) * 6 + 2) (yl (i * 5 + 2))) dl ds db dd := by
      intro nn
      refine hJ _ ⟨?_, ?_⟩
      · intro p hp
        rw [pk_un (by omega), pk_un (by omega), pk_un (by omega)]
      · intro _
        refine ⟨?_, ?_, pk_us, fun w => absurd w nn, fun _ => ⟨?_, ?_, ?_⟩⟩
        · rw [pk_un (by omega), pk_un (by omega), pk_us]
        · rw [pk_un (by omega), pk_us]
        · rw [pk_un (by omega), pk_un (by omega), pk_un (by omega)]; exact h6 _ (by omega) (by omega)
        · rw [pk_un (by omega), pk_un (by omega), pk_un (by omega)]; exact h6 _ (by omega) (by omega)
        · rw [pk_un (by omega), pk_un (by omega), pk_un (by omega)]; exact h6 _ (by omega) (by omega)
    by_cases i0 : i = 0
    · refine br_t (congrArg nI i0) (nm_r (nI_1 i) (no ?_))
      intro w
      exact absurd w.1 (by omega)
    · refine br_f (nI_ne0 (by omega) (by omega)) ⟨v0, ?_⟩
      by_cases k0 : yl (i * 5) = 0
      · exact br_t ((dl_c yl (dl_e5 i) (by omega)).trans k0) (nm_r (nI_1 i) (no fun w => w.2.1 k0))
      · refine br_f (fun z => k0 ((dl_c yl (dl_e5 i) (by omega)).symm.trans z)) ⟨v4, ?_⟩
        have c4 : yl (nI i * 5 + 4).toNatClampNeg = yl (i * 5 + 4) := dl_c yl (dl_e5p i 4) (by omega)
        rw [c4]
        by_cases s4 : yl (i * 5 + 4) ≤ x2
        · exact br_t s4 (nm_r (nI_1 i) (no fun w => w.2.2 s4))
        · refine br_f s4 ⟨v3, w3, nm_r (dl_u (nI_add _ 3) (by omega) (dl_c yl (dl_e5p i 3) (by omega))) ⟨v4, w4, nm_r (dl_u (nI_add _ 4) (by omega) rfl) ⟨w5, nm_r (dl_u (nI_add _ 5) (by omega) rfl) (nm_r (nI_1 i) (hJ _ ⟨?_, ?_⟩))⟩⟩⟩
          · intro p hp
            rw [pk_un (by omega), pk_un (by omega), pk_un (by omega), pk_un (by omega), pk_un (by omega), pk_un (by omega)]
          · intro _
            refine ⟨?_, ?_, ?_, fun _ => ⟨?_, ?_, pk_us⟩, fun w => absurd ⟨by omega, k0, s4⟩ w⟩
            · rw [pk_un (by omega), pk_un (by omega), pk_un (by omega), pk_un (by omega), pk_un (by omega), pk_us]
            · rw [pk_un (by omega), pk_un (by omega), pk_un (by omega), pk_un (by omega), pk_us]
            · rw [pk_un (by omega), pk_un (by omega), pk_un (by omega), pk_us]
            · rw [pk_un (by omega), pk_un (by omega), pk_us]
            · rw [pk_un (by omega), pk_us]
theorem y9_a {i q : Nat} (hN : N ≤ 16) (hi : i < 16) (hq : q ≤ 112) (hJ : ∀ ye', dl_Z N q i yl x2 ye ye' → J (nI (i + 1)) yl yr ye' dl ds db dd) : ∃ n, wY_dump_99 post J x1 x2 x3 (nI i) (nI ((q + i) * 6)) (nI N) (nI D) ck sa (nI T) n 0 yl yr ye dl ds db dd := by
  have hr : (q + i) * 6 ≤ 762 := by omega
  refine ⟨7, y9_s (f := 0) hr (by omega) (y9_s (f := 1) hr (by omega) (y9_s (f := 2) hr (by omega) (y9_s (f := 3) hr (by omega) (y9_s (f := 4) hr (by omega) (y9_s (f := 5) hr (by omega) (y9_e hN hi hq ?_ ?_))))))⟩
  · intro p h1 h2
    have h : p = (q + i) * 6 + 0 ∨ p = (q + i) * 6 + 1 ∨ p = (q + i) * 6 + 2 ∨ p = (q + i) * 6 + 3 ∨ p = (q + i) * 6 + 4 ∨ p = (q + i) * 6 + 5 := by omega
    rcases h with rfl | rfl | rfl | rfl | rfl | rfl
    · rw [pk_un (by omega), pk_un (by omega), pk_un (by omega), pk_un (by omega), pk_un (by omega), pk_us]
    · rw [pk_un (by omega), pk_un (by omega), pk_un (by omega), pk_un (by omega), pk_us]
    · rw [pk_un (by omega), pk_un (by omega), pk_un (by omega), pk_us]
    · rw [pk_un (by omega), pk_un (by omega), pk_us]
    · rw [pk_un (by omega), pk_us]
    · rw [pk_us]
  · intro ye' h
    refine hJ ye' ⟨fun p hp => ?_, h.2⟩
    rw [h.1 p hp, pk_un (by omega), pk_un (by omega), pk_un (by omega), pk_un (by omega), pk_un (by omega), pk_un (by omega)]
end
section
variable {N D T : Nat} {ck sa : Int32} {yl yr ye dl ds db dd : Nat → Int32} {post : Int32 → SY → Prop} {l : Nat} {b : Int32}
theorem y7_l (hN : N ≤ 16) (hT : T < 8) (hl : l < 10) (hp : ∀ ye', (∀ m, m < N → dl_Q1 (T * 16) yl b ye' m) → (∀ p, p < T * 16 * 6 → ye' p = ye p) → post (nI T) (nI N, nI D, ck, sa, nI (T + 1), yl, yr, ye', upd dl T (nI l), upd ds T ck, upd db T b, upd dd l ck)) : ∀ (n i : Nat) (ye' : Nat → Int32), i + n = 16 → (∀ m, m < i → m < N → dl_Q1 (T * 16) yl b ye' m) → (∀ p, p < T * 16 * 6 → ye' p = ye p) → wY_dump_77 post (nI l) b (nI T) (nI N) (nI D) ck sa (nI T) (n + 1) (nI i) yl yr ye' dl ds db dd := by
  intro n
  induction n with
  | zero =>
    intro i ye' hi h1 h2
    have hv : vp_in (nI T) 8 := vp_in_nI (by omega) (by omega)
    have hw : vp_in (nI l) 10 := vp_in_nI (by omega) (by omega)
    exact br_t (nI_le (a := 16) (by omega) (by omega)) ⟨hv, nm_r (dl_u rfl (by omega) rfl) ⟨hv, nm_r (dl_u rfl (by omega) rfl) ⟨hv, nm_r (dl_u rfl (by omega) rfl) (nm_r (nI_1 T) ⟨hw, nm_r (dl_u rfl (by omega) rfl) (hp ye' (fun m hm => h1 m (by omega) hm) h2)⟩)⟩⟩⟩
  | succ n ih =>
    intro i ye' hi h1 h2
    refine br_f (nI_ge (b := 16) (by omega) (by decide)) (nm_r (dl_e6 T i) ?_)
    refine y9_a hN (by omega) (by omega) ?_
    intro ye2 h
    refine ih (i + 1) ye2 (by omega) ?_ ?_
    · intro m hm hmN
      by_cases z : m = i
      · subst z
        exact h.2 hmN
      · have g := h1 m (by omega) hmN
        have s : ∀ w, w < 6 → ye2 ((T * 16 + m) * 6 + w) = ye' ((T * 16 + m) * 6 + w) := fun w hw => h.1 _ (by omega)
        unfold dl_Q1
        rw [s 1 (by omega), s 2 (by omega), s 3 (by omega), s 4 (by omega), s 5 (by omega), show ye2 ((T * 16 + m) * 6) = ye' ((T * 16 + m) * 6) from s 0 (by omega)]
        exact g
    · intro p hp
      rw [h.1 p (by omega)]
      exact h2 p hp
theorem y7_a (hN : N ≤ 16) (hT : T < 8) (hl : l < 10) (hp : ∀ ye', (∀ m, m < N → dl_Q1 (T * 16) yl b ye' m) → (∀ p, p < T * 16 * 6 → ye' p = ye p) → post (nI T) (nI N, nI D, ck, sa, nI (T + 1), yl, yr, ye', upd dl T (nI l), upd ds T ck, upd db T b, upd dd l ck)) : ∃ n, wY_dump_77 post (nI l) b (nI T) (nI N) (nI D) ck sa (nI T) n 0 yl yr ye dl ds db dd :=
  ⟨17, y7_l hN hT hl hp 16 0 ye (by omega) (fun m hm => absurd hm (by omega)) (fun p _ => rfl)⟩
end
/-! dump: both -/
theorem dl_Enew {N T : Nat} {b : Int32} {lk lp ln lc ls dc ek ep en ec es eg ek' ep' en' ec' es' eg' yl ye ye' : Nat → Int32} (hN : N ≤ 16) (HL : dl_L N lk lp ln lc ls yl) (HE : dl_E N T dc ek ep en ec es eg ye) (hS : dl_S (T * 16) N lk lp ln lc ls b ek ep en ec es eg ek' ep' en' ec' es' eg') (hQ : ∀ m, m < N → dl_Q1 (T * 16) yl b ye' m) (hO : ∀ p, p < T * 16 * 6 → ye' p = ye p) : dl_E N (T + 1) (upd dc T (dl_ct eg' (T * 16) N)) ek' ep' en' ec' es' eg' ye' := by
  refine ⟨?_, ?_⟩
  · intro d hd
    by_cases z : d = T
    · subst z
      refine ⟨pk_us, ?_⟩
      intro i hi
      obtain ⟨a0, a1, a2, a3, a4⟩ := hS.1 i hi
      obtain ⟨b0, b1, b2, b3, b4⟩ := hQ i hi
      obtain ⟨c0, c1, c2, c3, c4⟩ := HL i hi
      have nn : dl_nw lk ls b i ↔ dl_nw (fun j => yl (j * 5)) (fun j => yl (j * 5 + 4)) b i := by
        unfold dl_nw
        try dsimp only
        rw [c0, c4]
      by_cases w : dl_nw lk ls b i
      · obtain ⟨x3, x4, x5⟩ := a3 w
        obtain ⟨y3, y4, y5⟩ := b3 (nn.mp w)
        exact ⟨by rw [b0, a0, c0], by rw [b1, a1, c1], by rw [b2, a2, c2], by rw [y3, x3, c3], by rw [y4, x4, c4], by rw [y5, x5], fun q => absurd x5 q⟩
      · obtain ⟨x3, x4, x5⟩ := a4 w
        obtain ⟨y3, y4, y5⟩ := b4 (fun q => w (nn.mpr q))
        exact ⟨by rw [b0, a0, c0], by rw [b1, a1, c1], by rw [b2, a2, c2], by rw [y3, x3], by rw [y4, x4], by rw [y5, x5], fun _ => ⟨x3, x4⟩⟩
    · obtain ⟨g1, g2⟩ := HE.1 d (by omega)
      refine ⟨?_, ?_⟩
      · rw [pk_un z, g1]
        exact dl_ctc N fun i hi => ((hS.2.2 (d * 16 + i) (by omega)).2.2.2.2.2).symm
      · intro i hi
        obtain ⟨a0, a1, a2, a3, a4, a5⟩ := hS.2.2 (d * 16 + i) (by omega)
        have s : ∀ w, w < 6 → ye' ((d * 16 + i) * 6 + w) = ye ((d * 16 + i) * 6 + w) := fun w hw => hO _ (by omega)
        unfold dl_E1
        rw [a0, a1, a2, a3, a4, a5, s 1 (by omega), s 2 (by omega), s 3 (by omega), s 4 (by omega), s 5 (by omega), show ye' ((d * 16 + i) * 6) = ye ((d * 16 + i) * 6) from s 0 (by omega)]
        exact g2 i hi
  · intro p hp
    exact hS.2.1 p (by omega)
section
variable {N D T : Nat} {ck sa : Int32} {yl yr ye dl ds db dd : Nat → Int32} {post : Int32 → SY → Prop} {p : Int32} {l : Nat}
theorem yq_l (h : ¬ dl_In 10 p) (hp : post (-9) (nI N, nI D, ck, sa, nI T, yl, yr, ye, dl, ds, db, dd)) : wpY_dump post (nI N, nI D, ck, sa, nI T, yl, yr, ye, dl, ds, db, dd) p := by
  rcases dl_In_c (by omega) h with a | ⟨a, b⟩
  · exact br_t a hp
  · refine br_f a (br_f ?_ hp)
    intro z
    exact absurd (Int32.le_trans b z) (by decide +kernel)
theorem yq_f (hl : l < 10) (h : ¬ nI T < nI D) (hp : post (-5) (nI N, nI D, ck, sa, nI T, yl, yr, ye, dl, ds, db, dd)) : wpY_dump post (nI N, nI D, ck, sa, nI T, yl, yr, ye, dl, ds, db, dd) (nI l) :=
  br_f (nI_pos (by omega)) (br_t (nI_le (b := 9) (by omega) (by decide)) (br_f h hp))
theorem yq_t (hl : l < 10) (h : nI T < nI D) (hp : ∃ n, wY_dump_41 post (nI l) (nI N) (nI D) (ck + 1) sa (nI T) yl yr ye dl ds db dd n 0 0) : wpY_dump post (nI N, nI D, ck, sa, nI T, yl, yr, ye, dl, ds, db, dd) (nI l) :=
  br_f (nI_pos (by omega)) (br_t (nI_le (b := 9) (by omega) (by decide)) (br_t h (nm_e hp)))
end
theorem i_vc_dump {k : Nat} {u : SX} {v : SY} (I : i_Rel k u v) (hk : k + 4 ≤ 2050) (v1 : Int32) : wpX_dump (fun r u' => wpY_dump (fun r' v' => r' = r ∧ i_Rel (k + 4) u' v') v v1) u v1 := by
  obtain ⟨N, D, T, ck, sa, lk, lp, ln, lc, ls, dl, ds, db, dc, dd, ek, ep, en, ec, es, eg, rk, rp, rn, rc, rs, yl, yr, ye, rfl, rfl, R⟩ := I
  obtain ⟨h4, hN, hD, hT, HL, HT, HE, HR⟩ := id R
  unfold wpX_dump
  by_cases c : dl_In 10 v1
  · obtain ⟨l, hl, rfl⟩ := c
    refine xv_t hl ?_
    refine br_f dl_10 ?_
    by_cases f : T < D
    · have ht : nI T < nI D := nI_lt f (by omega)
      have hv : vp_in (nI T) 8 := vp_in_nI (by omega) (by omega)
      have hw : vp_in (nI l) 10 := vp_in_nI (by omega) (by omega)
      refine br_t ht (nm_e ⟨hv, nm_r (dl_u rfl (by omega) rfl) ⟨hv, nm_r (dl_u rfl (by omega) rfl) ?_⟩⟩)
      refine xm_a (by omega) ?_
      refine ⟨hv, nm_r (dl_u rfl (by omega) rfl) ?_⟩
      refine xr_a hN (by omega) HE.2 ?_
      intro ek' ep' en' ec' es' eg' hS
      rw [pk_us] at hS
      refine ⟨hv, nm_r (dl_u rfl (by omega) rfl) ⟨hw, nm_r (dl_u rfl (by omega) rfl) (nm_r (nI_1 T) ?_)⟩⟩
      refine yq_t hl ht (ym_a (by omega) (y7_a hN (by omega) hl ?_))
      intro ye' hQ hO
      exact ⟨rfl, dl_mk ⟨h4, hN, hD, f, HL, HT, dl_Enew hN HL HE hS hQ hO, HR⟩⟩
    · have ht : ¬ nI T < nI D := nI_nlt (by omega) (by omega)
      exact br_f ht (yq_f hl ht ⟨rfl, dl_mk R⟩)
  · refine xv_f c ?_
    exact br_t rfl (yq_l c ⟨rfl, dl_mk R⟩)
end
section
/-! restoreReset -/
section
variable {N D T : Nat} {ck sa : Int32} {lk lp ln lc ls dl ds db dc dd ek ep en ec es eg rk rp rn rc rs : Nat → Int32} {post : SX → Prop}
theorem xs_l (hN : N ≤ 16) (hp : ∀ rk' rp' rn' rc' rs' : Nat → Int32, (∀ m, m < N → rk' m = 0 ∧ rp' m = 0 ∧ rn' m = 0 ∧ rc' m = 0 ∧ rs' m = 0) → post (nI N, nI D, ck, nI T, 0, lk, lp, ln, lc, ls, dl, ds, db, dc, dd, ek, ep, en, ec, es, eg, upd rk' 0 2, rp', rn', rc', rs')) : ∀ (n i : Nat) (rk' rp' rn' rc' rs' : Nat → Int32), i + n = N → (∀ m, m < i → rk' m = 0 ∧ rp' m = 0 ∧ rn' m = 0 ∧ rc' m = 0 ∧ rs' m = 0) → wX_restoreReset_2 post (nI N) (nI D) ck (nI T) sa (n + 1) (nI i) lk lp ln lc ls dl ds db dc dd ek ep en ec es eg rk' rp' rn' rc' rs' := by
  intro n
  induction n with
  | zero =>
    intro i rk' rp' rn' rc' rs' hi h
    exact br_t (nI_le (by omega) (by omega)) (nm_e (hp _ _ _ _ _ fun m hm => h m (by omega)))
  | succ n ih =>
    intro i rk' rp' rn' rc' rs' hi h
    have hv : vp_in (nI i) 16 := vp_in_nI (by omega) (by omega)
    refine br_f (nI_ge (by omega) (by omega)) ⟨hv, nm_r (dl_u rfl (by omega) rfl) ⟨hv, nm_r (dl_u rfl (by omega) rfl) ⟨hv, nm_r (dl_u rfl (by omega) rfl) ⟨hv, nm_r (dl_u rfl (by omega) rfl) ⟨hv, nm_r (dl_u rfl (by omega) rfl) (nm_r (nI_1 i) (ih (i + 1) _ _ _ _ _ (by omega) ?_))⟩⟩⟩⟩⟩
    intro m hm
    by_cases z : m = i
    · subst z
      exact ⟨pk_us, pk_us, pk_us, pk_us, pk_us⟩
    · rw [pk_un z, pk_un z, pk_un z, pk_un z, pk_un z]
      exact h m (by omega)
theorem xs_a (hN : N ≤ 16) (hp : ∀ rk' rp' rn' rc' rs' : Nat → Int32, (∀ m, m < N → rk' m = 0 ∧ rp' m = 0 ∧ rn' m = 0 ∧ rc' m = 0 ∧ rs' m = 0) → post (nI N, nI D, ck, nI T, 0, lk, lp, ln, lc, ls, dl, ds, db, dc, dd, ek, ep, en, ec, es, eg, upd rk' 0 2, rp', rn', rc', rs')) : wpX_restoreReset post (nI N, nI D, ck, nI T, sa, lk, lp, ln, lc, ls, dl, ds, db, dc, dd, ek, ep, en, ec, es, eg, rk, rp, rn, rc, rs) :=
  ⟨N + 1, xs_l hN hp N 0 rk rp rn rc rs (by omega) (fun m hm => absurd hm (by omega))⟩
end
section
variable {N D T : Nat} {ck sa : Int32} {yl yr ye dl ds db dd : Nat → Int32} {post : SY → Prop}
theorem yt_l (hp : ∀ yr' : Nat → Int32, (∀ m, m < 80 → yr' m = 0) → post (nI N, nI D, ck, 0, nI T, yl, upd yr' 0 2, ye, dl, ds, db, dd)) : ∀ (n i : Nat) (yr' : Nat → Int32), i + n = 80 → (∀ m, m < i → yr' m = 0) → wY_restoreReset_2 post (nI N) (nI D) ck sa (nI T) (n + 1) (nI i) yl yr' ye dl ds db dd := by
  intro n
  induction n with
  | zero =>
    intro i yr' hi h
    exact br_t (nI_le (a := 80) (by omega) (by omega)) (nm_e (hp _ fun m hm => h m (by omega)))
  | succ n ih =>
    intro i yr' hi h
    refine br_f (nI_ge (b := 80) (by omega) (by decide)) ⟨vp_in_nI (by omega) (by omega), nm_r (dl_u rfl (by omega) rfl) (nm_r (nI_1 i) (ih (i + 1) _ (by omega) ?_))⟩
    intro m hm
    by_cases z : m = i
    · subst z
      exact pk_us
    · rw [pk_un z]
      exact h m (by omega)
theorem yt_a (hp : ∀ yr' : Nat → Int32, (∀ m, m < 80 → yr' m = 0) → post (nI N, nI D, ck, 0, nI T, yl, upd yr' 0 2, ye, dl, ds, db, dd)) : wpY_restoreReset post (nI N, nI D, ck, sa, nI T, yl, yr, ye, dl, ds, db, dd) :=
  ⟨81, yt_l hp 80 0 yr (by omega) (fun m hm => absurd hm (by omega))⟩
end
theorem i_vc_restoreReset {k : Nat} {u : SX} {v : SY} (I : i_Rel k u v) (hk : k + 4 ≤ 2050) : wpX_restoreReset (fun u' => wpY_restoreReset (fun v' => i_Rel (k + 4) u' v') v) u := by
  obtain ⟨N, D, T, ck, sa, lk, lp, ln, lc, ls, dl, ds, db, dc, dd, ek, ep, en, ec, es, eg, rk, rp, rn, rc, rs, yl, yr, ye, rfl, rfl, R⟩ := I
  obtain ⟨h4, hN, hD, hT, HL, HT, HE, HR⟩ := id R
  refine xs_a hN ?_
  intro rk' rp' rn' rc' rs' hx
  refine yt_a ?_
  intro yr' hy
  have h0 : dl_L N rk' rp' rn' rc' rs' yr' := by
    intro i hi
    obtain ⟨a0, a1, a2, a3, a4⟩ := hx i hi
    rw [a0, a1, a2, a3, a4]
    exact ⟨hy _ (by omega), hy _ (by omega), hy _ (by omega), hy _ (by omega), hy _ (by omega)⟩
  exact dl_mk ⟨h4, hN, hD, hT, HL, HT, HE, dl_L0 (j := 0) h0⟩
/-! restoreApply: the component -/
def dl_A1 (q : Nat) (ek ep en ec es eg rc rs rk' rp' rn' rc' rs' : Nat → Int32) (m : Nat) : Prop := rk' m = ek (q + m) ∧ rp' m = ep (q + m) ∧ rn' m = en (q + m) ∧ ((eg (q + m) = 1 ∨ ek (q + m) = 0) → rc' m = ec (q + m) ∧ rs' m = es (q + m)) ∧ (¬ (eg (q + m) = 1 ∨ ek (q + m) = 0) → rc' m = rc m ∧ rs' m = rs m)
section
variable {N D T : Nat} {ck sa : Int32} {lk lp ln lc ls dl ds db dc dd ek ep en ec es eg rk rp rn rc rs : Nat → Int32} {d i : Nat}
theorem xo_a {post : SX → Prop} (hd : d < 8) (hi : i < 16) (hp1 : (eg (d * 16 + i) = 1 ∨ ek (d * 16 + i) = 0) → post (nI N, nI D, ck, nI T, sa, lk, lp, ln, lc, ls, dl, ds, db, dc, dd, ek, ep, en, ec, es, eg, upd rk i (ek (d * 16 + i)), upd rp i (ep (d * 16 + i)), upd rn i (en (d * 16 + i)), upd rc i (ec (d * 16 + i)), upd rs i (es (d * 16 + i)))) (hp0 : ¬ (eg (d * 16 + i) = 1 ∨ ek (d * 16 + i) = 0) → post (nI N, nI D, ck, nI T, sa, lk, lp, ln, lc, ls, dl, ds, db, dc, dd, ek, ep, en, ec, es, eg, upd rk i (ek (d * 16 + i)), upd rp i (ep (d * 16 + i)), upd rn i (en (d * 16 + i)), rc, rs)) : wpX_restoreInode post (nI N, nI D, ck, nI T, sa, lk, lp, ln, lc, ls, dl, ds, db, dc, dd, ek, ep, en, ec, es, eg, rk, rp, rn, rc, rs) (nI d) (nI i) := by
  have hv : vp_in (nI i) 16 := vp_in_nI (by omega) (by omega)
  have hw : vp_in (nI (d * 16 + i)) 128 := vp_in_nI (by omega) (by omega)
  have fin : post (nI N, nI D, ck, nI T, sa, lk, lp, ln, lc, ls, dl, ds, db, dc, dd, ek, ep, en, ec, es, eg, upd rk i (ek (d * 16 + i)), upd rp i (ep (d * 16 + i)), upd rn i (en (d * 16 + i)), upd rc i (ec (d * 16 + i)), upd rs i (es (d * 16 + i))) → wX_restoreInode_61 post (nI i) (nI (d * 16 + i)) (nI N) (nI D) ck (nI T) sa lk lp ln lc ls dl ds db dc dd ek ep en ec es eg (upd rk i (ek (d * 16 + i))) (upd rp i (ep (d * 16 + i))) (upd rn i (en (d * 16 + i))) rc rs := by
    intro h
    exact ⟨hw, hv, nm_r (dl_u rfl (by omega) (dl_c ec rfl (by omega))) ⟨hw, hv, nm_r (dl_u rfl (by omega) (dl_c es rfl (by omega))) h⟩⟩
  unfold wpX_restoreInode
  refine xx_a ?_
  refine ⟨hw, hv, nm_r (dl_u rfl (by omega) (dl_c ek rfl (by omega))) ⟨hw, hv, nm_r (dl_u rfl (by omega) (dl_c ep rfl (by omega))) ⟨hw, hv, nm_r (dl_u rfl (by omega) (dl_c en rfl (by omega))) ⟨hw, ?_⟩⟩⟩⟩
  by_cases g : eg (d * 16 + i) = 1
  · exact br_t ((dl_c eg rfl (by omega)).trans g) (fin (hp1 (Or.inl g)))
  · refine br_f (fun z => g ((dl_c eg rfl (by omega)).symm.trans z)) ⟨hw, ?_⟩
    by_cases k0 : ek (d * 16 + i) = 0
    · exact br_t ((dl_c ek rfl (by omega)).trans k0) (fin (hp1 (Or.inr k0)))
    · exact br_f (fun z => k0 ((dl_c ek rfl (by omega)).symm.trans z)) (hp0 fun w => w.elim g k0)
theorem xa_l {post : Int32 → SX → Prop} (hN : N ≤ 16) (hd : d < 8) (hp : ∀ rk' rp' rn' rc' rs' : Nat → Int32, (∀ m, m < N → dl_A1 (d * 16) ek ep en ec es eg rc rs rk' rp' rn' rc' rs' m) → post 0 (nI N, nI D, ck, nI T, ds d, lk, lp, ln, lc, ls, dl, ds, db, dc, dd, ek, ep, en, ec, es, eg, rk', rp', rn', rc', rs')) : ∀ (n i : Nat) (rk' rp' rn' rc' rs' : Nat → Int32), i + n = N → (∀ m, m < i → dl_A1 (d * 16) ek ep en ec es eg rc rs rk' rp' rn' rc' rs' m) → (∀ m, i ≤ m → rc' m = rc m ∧ rs' m = rs m) → wX_restoreApply_29 post (nI d) (n + 1) (nI i) (nI N) (nI D) ck (nI T) sa lk lp ln lc ls dl ds db dc dd ek ep en ec es eg rk' rp' rn' rc' rs' := by
  intro n
  induction n with
  | zero =>
    intro i rk' rp' rn' rc' rs' hi h1 h2
    exact br_t (nI_le (by omega) (by omega)) ⟨vp_in_nI (by omega) (by omega), nm_r (dl_c ds rfl (by omega)) (hp _ _ _ _ _ fun m hm => h1 m (by omega))⟩
  | succ n ih =>
    intro i rk' rp' rn' rc' rs' hi h1 h2
    refine br_f (nI_ge (by omega) (by omega)) (xo_a hd (by omega) ?_ ?_)
    · intro c
      refine nm_r (nI_1 i) (ih (i + 1) _ _ _ _ _ (by omega) ?_ ?_)
      · intro m hm
        by_cases z : m = i
        · subst z
          exact ⟨pk_us, pk_us, pk_us, fun _ => ⟨pk_us, pk_us⟩, fun w => absurd c w⟩
        · unfold dl_A1
          rw [pk_un z, pk_un z, pk_un z, pk_un z, pk_un z]
          exact h1 m (by omega)
      · intro m hm
        rw [pk_un (by omega), pk_un (by omega)]
        exact h2 m (by omega)
    · intro c
      refine nm_r (nI_1 i) (ih (i + 1) _ _ _ _ _ (by omega) ?_ ?_)
      · intro m hm
        by_cases z : m = i
        · subst z
          exact ⟨pk_us, pk_us, pk_us, fun w => absurd w c, fun _ => h2 m (Nat.le_refl m)⟩
        · unfold dl_A1
          rw [pk_un z, pk_un z, pk_un z]
          exact h1 m (by omega)
      · intro m hm
        exact h2 m (by omega)
theorem xa_a {post : Int32 → SX → Prop} (hN : N ≤ 16) (hd : d < 8) (hp : ∀ rk' rp' rn' rc' rs' : Nat → Int32, (∀ m, m < N → dl_A1 (d * 16) ek ep en ec es eg rc rs rk' rp' rn' rc' rs' m) → post 0 (nI N, nI D, ck, nI T, ds d, lk, lp, ln, lc, ls, dl, ds, db, dc, dd, ek, ep, en, ec, es, eg, rk', rp', rn', rc', rs')) : ∃ n, wX_restoreApply_29 post (nI d) n 0 (nI N) (nI D) ck (nI T) sa lk lp ln lc ls dl ds db dc dd ek ep en ec es eg rk rp rn rc rs :=
  ⟨N + 1, xa_l hN hd hp N 0 rk rp rn rc rs (by omega) (fun m hm => absurd hm (by omega)) (fun m _ => ⟨rfl, rfl⟩)⟩
end
/-! restoreApply: the reference -/
def dl_B1 (q : Nat) (ye yr yr' : Nat → Int32) (m : Nat) : Prop := yr' (m * 5) = ye ((q + m) * 6) ∧ yr' (m * 5 + 1) = ye ((q + m) * 6 + 1) ∧ yr' (m * 5 + 2) = ye ((q + m) * 6 + 2) ∧ (ye ((q + m) * 6 + 5) = 1 → yr' (m * 5 + 3) = ye ((q + m) * 6 + 3) ∧ yr' (m * 5 + 4) = ye ((q + m) * 6 + 4)) ∧ (¬ ye ((q + m) * 6 + 5) = 1 → ye ((q + m) * 6) = 0 → yr' (m * 5 + 3) = 0 ∧ yr' (m * 5 + 4) = 0) ∧ (¬ ye ((q + m) * 6 + 5) = 1 → ¬ ye ((q + m) * 6) = 0 → yr' (m * 5 + 3) = yr (m * 5 + 3) ∧ yr' (m * 5 + 4) = yr (m * 5 + 4))
theorem dl_Bk {q i m : Nat} {ye yr yr' yr2 : Nat → Int32} (h : dl_B1 q ye yr yr' m) (hm : m < i) (e : ∀ p, p < i * 5 → yr2 p = yr' p) : dl_B1 q ye yr yr2 m := by
  unfold dl_B1
  rw [e (m * 5) (by omega), e (m * 5 + 1) (by omega), e (m * 5 + 2) (by omega), e (m * 5 + 3) (by omega), e (m * 5 + 4) (by omega)]
  exact h
section
variable {N D T : Nat} {ck sa : Int32} {yl yr ye dl ds db dd : Nat → Int32} {d : Nat} {post : Int32 → SY → Prop}
theorem ya_l (hN : N ≤ 16) (hd : d < 8) (hp : ∀ yr' : Nat → Int32, (∀ m, m < N → dl_B1 (d * 16) ye yr yr' m) → post 0 (nI N, nI D, ck, ds d, nI T, yl, yr', ye, dl, ds, db, dd)) : ∀ (n i : Nat) (yr' : Nat → Int32), i + n = N → (∀ m, m < i → dl_B1 (d * 16) ye yr yr' m) → (∀ p, i * 5 ≤ p → yr' p = yr p) → wY_restoreApply_33 post (nI d) (nI N) (nI D) ck sa (nI T) (n + 1) (nI i) yl yr' ye dl ds db dd := by
  intro n
  induction n with
  | zero =>
    intro i yr' hi h1 h2
    exact br_t (nI_le (by omega) (by omega)) ⟨vp_in_nI (by omega) (by omega), nm_r (dl_c ds rfl (by omega)) (hp _ fun m hm => h1 m (by omega))⟩
  | succ n ih =>
    intro i yr' hi h1 h2
    have v0 : vp_in (nI i * 5) 80 := dl_v (dl_e5 i) (by omega) (by omega)
    have v1 : vp_in (nI i * 5 + 1) 80 := dl_v (dl_e5p i 1) (by omega) (by omega)
    have v2 : vp_in (nI i * 5 + 2) 80 := dl_v (dl_e5p i 2) (by omega) (by omega)
    have v3 : vp_in (nI i * 5 + 3) 80 := dl_v (dl_e5p i 3) (by omega) (by omega)
    have v4 : vp_in (nI i * 5 + 4) 80 := dl_v (dl_e5p i 4) (by omega) (by omega)
    have w0 : vp_in (nI ((d * 16 + i) * 6)) 768 := vp_in_nI (by omega) (by omega)
    have w1 : vp_in (nI ((d * 16 + i) * 6) + 1) 768 := dl_v (nI_add _ 1) (by omega) (by omega)
    have w2 : vp_in (nI ((d * 16 + i) * 6) + 2) 768 := dl_v (nI_add _ 2) (by omega) (by omega)
    have w3 : vp_in (nI ((d * 16 + i) * 6) + 3) 768 := dl_v (nI_add _ 3) (by omega) (by omega)
    have w4 : vp_in (nI ((d * 16 + i) * 6) + 4) 768 := dl_v (nI_add _ 4) (by omega) (by omega)
    have w5 : vp_in (nI ((d * 16 + i) * 6) + 5) 768 := dl_v (nI_add _ 5) (by omega) (by omega)
    have k5 : ye (nI ((d * 16 + i) * 6) + 5).toNatClampNeg = ye ((d * 16 + i) * 6 + 5) := dl_c ye (nI_add _ 5) (by omega)
    refine br_f (nI_ge (by omega) (by omega)) (nm_r (dl_e6 d i) ⟨w0, v0, nm_r (dl_u (dl_e5 i) (by omega) (dl_c ye rfl (by omega))) ⟨w1, v1, nm_r (dl_u (dl_e5p i 1) (by omega) (dl_c ye (nI_add _ 1) (by omega))) ⟨w2, v2, nm_r (dl_u (dl_e5p i 2) (by omega) (dl_c ye (nI_add _ 2) (by omega))) ⟨w5, ?_⟩⟩⟩⟩)
    rw [k5]
    by_cases g : ye ((d * 16 + i) * 6 + 5) = 1
    · refine br_t g ⟨w3, v3, nm_r (dl_u (dl_e5p i 3) (by omega) (dl_c ye (nI_add _ 3) (by omega))) ⟨w4, v4, nm_r (dl_u (dl_e5p i 4) (by omega) (dl_c ye (nI_add _ 4) (by omega))) (nm_r (nI_1 i) (ih (i + 1) _ (by omega) ?_ ?_))⟩⟩
      · intro m hm
        by_cases z : m = i
        · subst z
          refine ⟨?_, ?_, ?_, fun _ => ⟨?_, pk_us⟩, fun w => absurd g w, fun w => absurd g w⟩
          · rw [pk_un (by omega), pk_un (by omega), pk_un (by omega), pk_un (by omega), pk_us]
          · rw [pk_un (by omega), pk_un (by omega), pk_un (by omega), pk_us]
          · rw [pk_un (by omega), pk_un (by omega), pk_us]
          · rw [pk_un (by omega), pk_us]
        · refine dl_Bk (i := i) (h1 m (by omega)) (by omega) ?_
          intro p hp
          rw [pk_un (by omega), pk_un (by omega), pk_un (by omega), pk_un (by omega), pk_un (by omega)]
      · intro p hp
        rw [pk_un (by omega), pk_un (by omega), pk_un (by omega), pk_un (by omega), pk_un (by omega)]
        exact h2 p (by omega)
    · refine br_f g ⟨w0, ?_⟩
      by_cases k0 : ye ((d * 16 + i) * 6) = 0
      · refine br_t ((dl_c ye rfl (by omega)).trans k0) ⟨v3, nm_r (dl_u (dl_e5p i 3) (by omega) rfl) ⟨v4, nm_r (dl_u (dl_e5p i 4) (by omega) rfl) (nm_r (nI_1 i) (ih (i + 1) _ (by omega) ?_ ?_))⟩⟩
        · intro m hm
          by_cases z : m = i
          · subst z
            refine ⟨?_, ?_, ?_, fun w => absurd w g, fun _ _ => ⟨?_, pk_us⟩, fun _ w => absurd k0 w⟩
            · rw [pk_un (by omega), pk_un (by omega), pk_un (by omega), pk_un (by omega), pk_us]
            · rw [pk_un (by omega), pk_un (by omega), pk_un (by omega), pk_us]
            · rw [pk_un (by omega), pk_un (by omega), pk_us]
            · rw [pk_un (by omega), pk_us]
          · refine dl_Bk (i := i) (h1 m (by omega)) (by omega) ?_
            intro p hp
            rw [pk_un (by omega), pk_un (by omega), pk_un (by omega), pk_un (by omega), pk_un (by omega)]
        · intro p hp
          rw [pk_un (by omega), pk_un (by omega), pk_un (by omega), pk_un (by omega), pk_un (by omega)]
          exact h2 p (by omega)
      · refine br_f (fun z => k0 ((dl_c ye rfl (by omega)).symm.trans z)) (nm_r (nI_1 i) (ih (i + 1) _ (by omega) ?_ ?_))
        · intro m hm
          by_cases z : m = i
          · subst z
            refine ⟨?_, ?_, pk_us, fun w => absurd w g, fun _ w => absurd w k0, fun _ _ => ⟨?_, ?_⟩⟩
            · rw [pk_un (by omega), pk_un (by omega), pk_us]
            · rw [pk_un (by omega), pk_us]
            · rw [pk_un (by omega), pk_un (by omega), pk_un (by omega)]; exact h2 _ (by omega)
            · rw [pk_un (by omega), pk_un (by omega), pk_un (by omega)]; exact h2 _ (by omega)
          · refine dl_Bk (i := i) (h1 m (by omega)) (by omega) ?_
            intro p hp
            rw [pk_un (by omega), pk_un (by omega), pk_un (by omega)]
        · intro p hp
          rw [pk_un (by omega), pk_un (by omega), pk_un (by omega)]
          exact h2 p (by omega)
theorem ya_a (hN : N ≤ 16) (hd : d < 8) (hp : ∀ yr' : Nat → Int32, (∀ m, m < N → dl_B1 (d * 16) ye yr yr' m) → post 0 (nI N, nI D, ck, ds d, nI T, yl, yr', ye, dl, ds, db, dd)) : ∃ n, wY_restoreApply_33 post (nI d) (nI N) (nI D) ck sa (nI T) n 0 yl yr ye dl ds db dd :=
  ⟨N + 1, ya_l hN hd hp N 0 yr (by omega) (fun m hm => absurd hm (by omega)) (fun p _ => rfl)⟩
theorem yg_d {p : Int32} (hT : T ≤ 8) (h : ¬ dl_In T p) (hp : post (-10) (nI N, nI D, ck, sa, nI T, yl, yr, ye, dl, ds, db, dd)) : wpY_restoreApply post (nI N, nI D, ck, sa, nI T, yl, yr, ye, dl, ds, db, dd) p := by
  rcases dl_In_c (by omega) h with a | ⟨a, b⟩
  · exact br_t a hp
  · exact br_f a (br_f (Int32.not_lt.mpr b) hp)
theorem yg_c (hT : T ≤ 8) (hd : d < T) (h : ¬ db d = sa) (hp : post (-11) (nI N, nI D, ck, sa, nI T, yl, yr, ye, dl, ds, db, dd)) : wpY_restoreApply post (nI N, nI D, ck, sa, nI T, yl, yr, ye, dl, ds, db, dd) (nI d) :=
  br_f (nI_pos (by omega)) (br_t (nI_lt hd (by omega)) ⟨vp_in_nI (by omega) (by omega), br_f (fun z => h ((dl_c db rfl (by omega)).symm.trans z)) hp⟩)
theorem yg_t (hT : T ≤ 8) (hd : d < T) (h : db d = sa) (hp : ∃ n, wY_restoreApply_33 post (nI d) (nI N) (nI D) ck sa (nI T) n 0 yl yr ye dl ds db dd) : wpY_restoreApply post (nI N, nI D, ck, sa, nI T, yl, yr, ye, dl, ds, db, dd) (nI d) :=
  br_f (nI_pos (by omega)) (br_t (nI_lt hd (by omega)) ⟨vp_in_nI (by omega) (by omega), br_t ((dl_c db rfl (by omega)).trans h) hp⟩)
end
theorem dl_AB {N q : Nat} {ek ep en ec es eg ye rk rp rn rc rs rk' rp' rn' rc' rs' yr yr' : Nat → Int32} (HR : dl_L N rk rp rn rc rs yr) (hE : ∀ i, i < N → dl_E1 (q + i) ek ep en ec es eg ye) (hA : ∀ m, m < N → dl_A1 q ek ep en ec es eg rc rs rk' rp' rn' rc' rs' m) (hB : ∀ m, m < N → dl_B1 q ye yr yr' m) : dl_L N rk' rp' rn' rc' rs' yr' := by
  intro i hi
  obtain ⟨e0, e1, e2, e3, e4, e5, e6⟩ := hE i hi
  obtain ⟨a0, a1, a2, a3, a4⟩ := hA i hi
  obtain ⟨b0, b1, b2, b3, b4, b5⟩ := hB i hi
  obtain ⟨c0, c1, c2, c3, c4⟩ := HR i hi
  refine ⟨by rw [b0, a0, e0], by rw [b1, a1, e1], by rw [b2, a2, e2], ?_⟩
  by_cases g : eg (q + i) = 1
  · obtain ⟨x3, x4⟩ := a3 (Or.inl g)
    obtain ⟨y3, y4⟩ := b3 (e5.trans g)
    exact ⟨by rw [y3, x3, e3], by rw [y4, x4, e4]⟩
  · have g2 : ¬ ye ((q + i) * 6 + 5) = 1 := fun z => g (e5.symm.trans z)
    by_cases k0 : ek (q + i) = 0
    · obtain ⟨x3, x4⟩ := a3 (Or.inr k0)
      obtain ⟨y3, y4⟩ := b4 g2 (e0.trans k0)
      obtain ⟨z3, z4⟩ := e6 g
      exact ⟨by rw [y3, x3, z3], by rw [y4, x4, z4]⟩
    · obtain ⟨x3, x4⟩ := a4 (fun w => w.elim g k0)
      obtain ⟨y3, y4⟩ := b5 g2 (fun z => k0 (e0.symm.trans z))
      exact ⟨by rw [y3, x3, c3], by rw [y4, x4, c4]⟩
theorem i_vc_restoreApply {k : Nat} {u : SX} {v : SY} (I : i_Rel k u v) (hk : k + 4 ≤ 2050) (v1 : Int32) : wpX_restoreApply (fun r u' => wpY_restoreApply (fun r' v' => r' = r ∧ i_Rel (k + 4) u' v') v v1) u v1 := by
  obtain ⟨N, D, T, ck, sa, lk, lp, ln, lc, ls, dl, ds, db, dc, dd, ek, ep, en, ec, es, eg, rk, rp, rn, rc, rs, yl, yr, ye, rfl, rfl, R⟩ := I
  obtain ⟨h4, hN, hD, hT, HL, HT, HE, HR⟩ := id R
  have hT8 : T ≤ 8 := by omega
  unfold wpX_restoreApply
  by_cases c : dl_In T v1
  · obtain ⟨d, hd, rfl⟩ := c
    have hv : vp_in (nI d) 8 := vp_in_nI (by omega) (by omega)
    refine xk_t hT8 hd ?_
    by_cases b : db d = sa
    · refine br_f dl_10 ⟨hv, br_t ((dl_c db rfl (by omega)).trans b) (xa_a hN (by omega) ?_)⟩
      intro rk' rp' rn' rc' rs' hA
      refine yg_t hT8 hd b (ya_a hN (by omega) ?_)
      intro yr' hB
      exact ⟨rfl, dl_mk ⟨h4, hN, hD, hT, HL, HT, HE, dl_AB HR (HE.1 d hd).2 hA hB⟩⟩
    · exact br_f dl_10 ⟨hv, br_f (fun z => b ((dl_c db rfl (by omega)).symm.trans z)) (yg_c hT8 hd b ⟨rfl, dl_mk R⟩)⟩
  · refine xk_f hT8 c ?_
    exact br_t rfl (yg_d hT8 c ⟨rfl, dl_mk R⟩)
/-! restoreMatches -/
def dl_5 (rk rp rn rc rs lk lp ln lc ls : Nat → Int32) (i : Nat) : Prop := rk i = lk i ∧ rp i = lp i ∧ rn i = ln i ∧ rc i = lc i ∧ rs i = ls i
section
variable {N D T : Nat} {ck sa : Int32} {lk lp ln lc ls dl ds db dc dd ek ep en ec es eg rk rp rn rc rs : Nat → Int32} {post : Int32 → Prop} {i : Nat}
theorem xp_t (hi : i < 16) (h : dl_5 rk rp rn rc rs lk lp ln lc ls i) (hp : post 1) : wpX_isRestoredAsLive post (nI N, nI D, ck, nI T, sa, lk, lp, ln, lc, ls, dl, ds, db, dc, dd, ek, ep, en, ec, es, eg, rk, rp, rn, rc, rs) (nI i) := by
  obtain ⟨a0, a1, a2, a3, a4⟩ := h
  have e : (nI i).toNatClampNeg = i := nI_clamp (by omega)
  have hv : vp_in (nI i) 16 := vp_in_nI (by omega) (by omega)
  unfold wpX_isRestoredAsLive
  rw [e]
  exact ⟨hv, hv, br_t a0 ⟨hv, hv, br_t a1 ⟨hv, hv, br_t a2 ⟨hv, hv, br_t a3 ⟨hv, hv, br_t a4 hp⟩⟩⟩⟩⟩
theorem xp_f (hi : i < 16) (h : ¬ dl_5 rk rp rn rc rs lk lp ln lc ls i) (hp : post 0) : wpX_isRestoredAsLive post (nI N, nI D, ck, nI T, sa, lk, lp, ln, lc, ls, dl, ds, db, dc, dd, ek, ep, en, ec, es, eg, rk, rp, rn, rc, rs) (nI i) := by
  have e : (nI i).toNatClampNeg = i := nI_clamp (by omega)
  have hv : vp_in (nI i) 16 := vp_in_nI (by omega) (by omega)
  unfold wpX_isRestoredAsLive
  rw [e]
  by_cases a0 : rk i = lk i
  · by_cases a1 : rp i = lp i
    · by_cases a2 : rn i = ln i
      · by_cases a3 : rc i = lc i
        · by_cases a4 : rs i = ls i
          · exact absurd ⟨a0, a1, a2, a3, a4⟩ h
          · exact ⟨hv, hv, br_t a0 ⟨hv, hv, br_t a1 ⟨hv, hv, br_t a2 ⟨hv, hv, br_t a3 ⟨hv, hv, br_f a4 hp⟩⟩⟩⟩⟩
        · exact ⟨hv, hv, br_t a0 ⟨hv, hv, br_t a1 ⟨hv, hv, br_t a2 ⟨hv, hv, br_f a3 hp⟩⟩⟩⟩
      · exact ⟨hv, hv, br_t a0 ⟨hv, hv, br_t a1 ⟨hv, hv, br_f a2 hp⟩⟩⟩
    · exact ⟨hv, hv, br_t a0 ⟨hv, hv, br_f a1 hp⟩⟩
  · exact ⟨hv, hv, br_f a0 hp⟩
theorem xu_l (hN : N ≤ 16) (hp1 : (∀ m, m < N → dl_5 rk rp rn rc rs lk lp ln lc ls m) → post 1) (hp0 : (∃ m, m < N ∧ ¬ dl_5 rk rp rn rc rs lk lp ln lc ls m) → post 0) : ∀ n i : Nat, i + n = N → (∀ m, m < i → dl_5 rk rp rn rc rs lk lp ln lc ls m) → wX_restoreMatches_2 post (nI N) (nI D) ck (nI T) sa lk lp ln lc ls dl ds db dc dd ek ep en ec es eg rk rp rn rc rs (n + 1) (nI i) := by
  intro n
  induction n with
  | zero =>
    intro i hi h
    exact br_t (nI_le (by omega) (by omega)) (hp1 fun m hm => h m (by omega))
  | succ n ih =>
    intro i hi h
    by_cases c : dl_5 rk rp rn rc rs lk lp ln lc ls i
    · refine br_f (nI_ge (by omega) (by omega)) (xp_t (by omega) c ?_)
      refine br_f dl_10 (nm_r (nI_1 i) (ih (i + 1) (by omega) ?_))
      intro m hm
      by_cases z : m = i
      · rw [z]; exact c
      · exact h m (by omega)
    · refine br_f (nI_ge (by omega) (by omega)) (xp_f (by omega) c ?_)
      exact br_t rfl (hp0 ⟨i, by omega, c⟩)
theorem xu_a (hN : N ≤ 16) (hp1 : (∀ m, m < N → dl_5 rk rp rn rc rs lk lp ln lc ls m) → post 1) (hp0 : (∃ m, m < N ∧ ¬ dl_5 rk rp rn rc rs lk lp ln lc ls m) → post 0) : wpX_restoreMatches post (nI N, nI D, ck, nI T, sa, lk, lp, ln, lc, ls, dl, ds, db, dc, dd, ek, ep, en, ec, es, eg, rk, rp, rn, rc, rs) :=
  ⟨N + 1, xu_l hN hp1 hp0 N 0 (by omega) (fun m hm => absurd hm (by omega))⟩
end
section
variable {N D T : Nat} {ck sa : Int32} {yl yr ye dl ds db dd : Nat → Int32} {post : Int32 → Prop}
theorem yx_l (hN : N ≤ 16) (hp1 : (∀ m, m < N * 5 → yr m = yl m) → post 1) (hp0 : (∃ m, m < N * 5 ∧ ¬ yr m = yl m) → post 0) : ∀ n i : Nat, i + n = N * 5 → (∀ m, m < i → yr m = yl m) → wY_restoreMatches_2 post (nI N) (nI D) ck sa (nI T) yl yr ye dl ds db dd (n + 1) (nI i) := by
  intro n
  induction n with
  | zero =>
    intro i hi h
    exact br_t (by rw [dl_e5]; exact nI_le (by omega) (by omega)) (hp1 fun m hm => h m (by omega))
  | succ n ih =>
    intro i hi h
    have hv : vp_in (nI i) 80 := vp_in_nI (by omega) (by omega)
    have hc : ¬ nI N * 5 ≤ nI i := by rw [dl_e5]; exact nI_ge (by omega) (by omega)
    by_cases c : yr i = yl i
    · refine br_f hc ⟨hv, hv, br_t ((dl_c yr rfl (by omega)).trans (c.trans (dl_c yl rfl (by omega)).symm)) (nm_r (nI_1 i) (ih (i + 1) (by omega) ?_))⟩
      intro m hm
      by_cases z : m = i
      · rw [z]; exact c
      · exact h m (by omega)
    · exact br_f hc ⟨hv, hv, br_f (fun z => c ((dl_c yr rfl (by omega)).symm.trans (z.trans (dl_c yl rfl (by omega))))) (hp0 ⟨i, by omega, c⟩)⟩
theorem yx_a (hN : N ≤ 16) (hp1 : (∀ m, m < N * 5 → yr m = yl m) → post 1) (hp0 : (∃ m, m < N * 5 ∧ ¬ yr m = yl m) → post 0) : wpY_restoreMatches post (nI N, nI D, ck, sa, nI T, yl, yr, ye, dl, ds, db, dd) :=
  ⟨N * 5 + 1, yx_l hN hp1 hp0 (N * 5) 0 (by omega) (fun m hm => absurd hm (by omega))⟩
end
theorem i_vc_restoreMatches {k : Nat} {u : SX} {v : SY} (I : i_Rel k u v) (hk : k + 4 ≤ 2050) : wpX_restoreMatches (fun r => wpY_restoreMatches (fun r' => r' = r ∧ i_Rel (k + 4) u v) v) u := by
  obtain ⟨N, D, T, ck, sa, lk, lp, ln, lc, ls, dl, ds, db, dc, dd, ek, ep, en, ec, es, eg, rk, rp, rn, rc, rs, yl, yr, ye, rfl, rfl, R⟩ := I
  obtain ⟨h4, hN, hD, hT, HL, HT, HE, HR⟩ := id R
  refine xu_a hN ?_ ?_
  · intro hx
    refine yx_a hN (fun _ => ⟨rfl, dl_mk R⟩) ?_
    intro ⟨m, hm, hne⟩
    refine absurd ?_ hne
    obtain ⟨i, w, hw, rfl⟩ : ∃ i w, w ≤ 4 ∧ m = i * 5 + w := ⟨m / 5, m % 5, by omega, by omega⟩
    have hi : i < N := by omega
    obtain ⟨a0, a1, a2, a3, a4⟩ := hx i hi
    obtain ⟨b0, b1, b2, b3, b4⟩ := HL i hi
    obtain ⟨c0, c1, c2, c3, c4⟩ := HR i hi
    have h : w = 0 ∨ w = 1 ∨ w = 2 ∨ w = 3 ∨ w = 4 := by omega
    rcases h with rfl | rfl | rfl | rfl | rfl
    · exact c0.trans (a0.trans b0.symm)
    · exact c1.trans (a1.trans b1.symm)
    · exact c2.trans (a2.trans b2.symm)
    · exact c3.trans (a3.trans b3.symm)
    · exact c4.trans (a4.trans b4.symm)
  · intro ⟨i, hi, hne⟩
    refine yx_a hN ?_ (fun _ => ⟨rfl, dl_mk R⟩)
    intro hy
    refine absurd ?_ hne
    obtain ⟨b0, b1, b2, b3, b4⟩ := HL i hi
    obtain ⟨c0, c1, c2, c3, c4⟩ := HR i hi
    exact ⟨c0.symm.trans ((hy _ (by omega)).trans b0), c1.symm.trans ((hy _ (by omega)).trans b1), c2.symm.trans ((hy _ (by omega)).trans b2), c3.symm.trans ((hy _ (by omega)).trans b3), c4.symm.trans ((hy _ (by omega)).trans b4)⟩
end
