/-! the relation -/
def dl_L (N : Nat) (lk lp ln lc ls yl : Nat → Int32) : Prop := ∀ i, i < N → yl (i * 5) = lk i ∧ yl (i * 5 + 1) = lp i ∧ yl (i * 5 + 2) = ln i ∧ yl (i * 5 + 3) = lc i ∧ yl (i * 5 + 4) = ls i
section
variable {N j : Nat} {v : Int32} {lk lp ln lc ls yl : Nat → Int32}
theorem dl_L0 (h : dl_L N lk lp ln lc ls yl) : dl_L N (upd lk j v) lp ln lc ls (upd yl (j * 5) v) := by
  intro i hi
  obtain ⟨h0, h1, h2, h3, h4⟩ := h i hi
  by_cases z : i = j
  · subst z
    simp (disch := omega) only [pk_un, pk_us, h1, h2, h3, h4, and_self]
  · simp (disch := omega) only [pk_un, h0, h1, h2, h3, h4, and_self]
theorem dl_L1 (h : dl_L N lk lp ln lc ls yl) : dl_L N lk (upd lp j v) ln lc ls (upd yl (j * 5 + 1) v) := by
  intro i hi
  obtain ⟨h0, h1, h2, h3, h4⟩ := h i hi
  by_cases z : i = j
  · subst z
    simp (disch := omega) only [pk_un, pk_us, h0, h2, h3, h4, and_self]
  · simp (disch := omega) only [pk_un, h0, h1, h2, h3, h4, and_self]
theorem dl_L2 (h : dl_L N lk lp ln lc ls yl) : dl_L N lk lp (upd ln j v) lc ls (upd yl (j * 5 + 2) v) := by
  intro i hi
  obtain ⟨h0, h1, h2, h3, h4⟩ := h i hi
  by_cases z : i = j
  · subst z
    simp (disch := omega) only [pk_un, pk_us, h0, h1, h3, h4, and_self]
  · simp (disch := omega) only [pk_un, h0, h1, h2, h3, h4, and_self]
theorem dl_L3 (h : dl_L N lk lp ln lc ls yl) : dl_L N lk lp ln (upd lc j v) ls (upd yl (j * 5 + 3) v) := by
  intro i hi
  obtain ⟨h0, h1, h2, h3, h4⟩ := h i hi
  by_cases z : i = j
  · subst z
    simp (disch := omega) only [pk_un, pk_us, h0, h1, h2, h4, and_self]
  · simp (disch := omega) only [pk_un, h0, h1, h2, h3, h4, and_self]
theorem dl_L4 (h : dl_L N lk lp ln lc ls yl) : dl_L N lk lp ln lc (upd ls j v) (upd yl (j * 5 + 4) v) := by
  intro i hi
  obtain ⟨h0, h1, h2, h3, h4⟩ := h i hi
  by_cases z : i = j
  · subst z
    simp (disch := omega) only [pk_un, pk_us, h0, h1, h2, h3, and_self]
  · simp (disch := omega) only [pk_un, h0, h1, h2, h3, h4, and_self]
end
/-! the tree: the root, parents within, parents of what is in use are directories, a name once in a directory -/
def dl_T (N : Nat) (lk lp ln : Nat → Int32) : Prop := lk 0 = 2 ∧ lp 0 = 0 ∧ (∀ i, i < N → ∃ j, j < N ∧ lp i = nI j) ∧ (∀ i, 0 < i → i < N → lk i ≠ 0 → ∃ j, j < N ∧ lp i = nI j ∧ lk j = 2) ∧ (∀ i j, 0 < i → i < N → 0 < j → j < N → lk i ≠ 0 → lk j ≠ 0 → lp i = lp j → ln i = ln j → i = j)
section
variable {N t q : Nat} {nm kd : Int32} {lk lp ln : Nat → Int32}
theorem dl_Tcreate (h : dl_T N lk lp ln) (h0 : 0 < t) (ht : t < N) (hf : lk t = 0) (hq : q < N) (hd : lk q = 2) (hu : ∀ j, 0 < j → j < N → ¬ (lk j ≠ 0 ∧ lp j = nI q ∧ ln j = nm)) : dl_T N (upd lk t kd) (upd lp t (nI q)) (upd ln t nm) := by
  obtain ⟨a0, a1, a2, a3, a4⟩ := h
  have d2 : ¬ (0 : Int32) = 2 := by decide
  have qt : q ≠ t := by
    intro e
    rw [e, hf] at hd
    exact d2 hd
  refine ⟨?_, ?_, ?_, ?_, ?_⟩
  · rw [pk_un (by omega)]; exact a0
  · rw [pk_un (by omega)]; exact a1
  · intro i hi
    by_cases z : i = t
    · subst z; exact ⟨q, hq, pk_us⟩
    · rw [pk_un z]; exact a2 i hi
  · intro i hi0 hi hk
    by_cases z : i = t
    · subst z
      exact ⟨q, hq, pk_us, by rw [pk_un qt]; exact hd⟩
    · rw [pk_un z] at hk
      obtain ⟨j, hj, e, k2⟩ := a3 i hi0 hi hk
      have jt : j ≠ t := by
        intro e2
        rw [e2, hf] at k2
        exact d2 k2
      exact ⟨j, hj, by rw [pk_un z]; exact e, by rw [pk_un jt]; exact k2⟩
  · intro i j hi0 hi hj0 hj hki hkj e1 e2
    by_cases z : i = t
    · by_cases w : j = t
      · rw [z, w]
      · subst z
        rw [pk_un w] at hkj
        rw [pk_us, pk_un w] at e1 e2
        exact absurd ⟨hkj, e1.symm, e2.symm⟩ (hu j hj0 hj)
    · by_cases w : j = t
      · subst w
        rw [pk_un z] at hki
        rw [pk_us, pk_un z] at e1 e2
        exact absurd ⟨hki, e1, e2⟩ (hu i hi0 hi)
      · rw [pk_un z] at hki
        rw [pk_un w] at hkj
        rw [pk_un z, pk_un w] at e1 e2
        exact a4 i j hi0 hi hj0 hj hki hkj e1 e2
theorem dl_Trename (h : dl_T N lk lp ln) (h0 : 0 < t) (ht : t < N) (hq : q < N) (hd : lk q = 2) (hu : ∀ j, 0 < j → j < N → (lk j ≠ 0 ∧ lp j = nI q ∧ ln j = nm) → j = t) : dl_T N lk (upd lp t (nI q)) (upd ln t nm) := by
  obtain ⟨a0, a1, a2, a3, a4⟩ := h
  refine ⟨a0, ?_, ?_, ?_, ?_⟩
  · rw [pk_un (by omega)]; exact a1
  · intro i hi
    by_cases z : i = t
    · subst z; exact ⟨q, hq, pk_us⟩
    · rw [pk_un z]; exact a2 i hi
  · intro i hi0 hi hk
    by_cases z : i = t
    · subst z; exact ⟨q, hq, pk_us, hd⟩
    · rw [pk_un z]; exact a3 i hi0 hi hk
  · intro i j hi0 hi hj0 hj hki hkj e1 e2
    by_cases z : i = t
    · by_cases w : j = t
      · rw [z, w]
      · subst z
        rw [pk_us, pk_un w] at e1 e2
        exact (hu j hj0 hj ⟨hkj, e1.symm, e2.symm⟩).symm
    · by_cases w : j = t
      · subst w
        rw [pk_us, pk_un z] at e1 e2
        exact hu i hi0 hi ⟨hki, e1, e2⟩
      · rw [pk_un z, pk_un w] at e1 e2
        exact a4 i j hi0 hi hj0 hj hki hkj e1 e2
theorem dl_Tremove (h : dl_T N lk lp ln) (h0 : 0 < t) (hN : N ≤ 16) (ht : t < N) (hu : ∀ j, 0 < j → j < N → ¬ (lk j ≠ 0 ∧ lp j = nI t)) : dl_T N (upd lk t 0) (upd lp t 0) (upd ln t 0) := by
  obtain ⟨a0, a1, a2, a3, a4⟩ := h
  refine ⟨?_, ?_, ?_, ?_, ?_⟩
  · rw [pk_un (by omega)]; exact a0
  · rw [pk_un (by omega)]; exact a1
  · intro i hi
    by_cases z : i = t
    · subst z; exact ⟨0, by omega, pk_us⟩
    · rw [pk_un z]; exact a2 i hi
  · intro i hi0 hi hk
    by_cases z : i = t
    · subst z; exact absurd pk_us hk
    · rw [pk_un z] at hk
      obtain ⟨j, hj, e, k2⟩ := a3 i hi0 hi hk
      have jt : j ≠ t := fun e2 => hu i hi0 hi ⟨hk, by rw [e, e2]⟩
      exact ⟨j, hj, by rw [pk_un z]; exact e, by rw [pk_un jt]; exact k2⟩
  · intro i j hi0 hi hj0 hj hki hkj e1 e2
    by_cases z : i = t
    · subst z; exact absurd pk_us hki
    · by_cases w : j = t
      · subst w; exact absurd pk_us hkj
      · rw [pk_un z] at hki
        rw [pk_un w] at hkj
        rw [pk_un z, pk_un w] at e1 e2
        exact a4 i j hi0 hi hj0 hj hki hkj e1 e2
end
/-! the dumps: entries of taken dumps alike, the count, what is not captured is 0; entries of later dumps untouched -/
def dl_E1 (p : Nat) (ek ep en ec es eg ye : Nat → Int32) : Prop := ye (p * 6) = ek p ∧ ye (p * 6 + 1) = ep p ∧ ye (p * 6 + 2) = en p ∧ ye (p * 6 + 3) = ec p ∧ ye (p * 6 + 4) = es p ∧ ye (p * 6 + 5) = eg p ∧ (eg p ≠ 1 → ec p = 0 ∧ es p = 0)
def dl_E (N T : Nat) (dc ek ep en ec es eg ye : Nat → Int32) : Prop := (∀ d, d < T → dc d = dl_ct eg (d * 16) N ∧ ∀ i, i < N → dl_E1 (d * 16 + i) ek ep en ec es eg ye) ∧ (∀ p, T * 16 ≤ p → ec p = 0 ∧ es p = 0 ∧ eg p = 0)
def dl_R (N D T : Nat) (lk lp ln lc ls dc ek ep en ec es eg rk rp rn rc rs yl yr ye : Nat → Int32) : Prop := 4 ≤ N ∧ N ≤ 16 ∧ D ≤ 8 ∧ T ≤ D ∧ dl_L N lk lp ln lc ls yl ∧ dl_T N lk lp ln ∧ dl_E N T dc ek ep en ec es eg ye ∧ dl_L N rk rp rn rc rs yr
def i_Rel (_ : Nat) (u : SX) (v : SY) : Prop := ∃ (N D T : Nat) (ck sa : Int32) (lk lp ln lc ls dl ds db dc dd ek ep en ec es eg rk rp rn rc rs yl yr ye : Nat → Int32), u = (nI N, nI D, ck, nI T, sa, lk, lp, ln, lc, ls, dl, ds, db, dc, dd, ek, ep, en, ec, es, eg, rk, rp, rn, rc, rs) ∧ v = (nI N, nI D, ck, sa, nI T, yl, yr, ye, dl, ds, db, dd) ∧ dl_R N D T lk lp ln lc ls dc ek ep en ec es eg rk rp rn rc rs yl yr ye
section
variable {N D T : Nat} {ck sa : Int32} {lk lp ln lc ls dl ds db dc dd ek ep en ec es eg rk rp rn rc rs yl yr ye : Nat → Int32}
theorem dl_mk {k : Nat} (h : dl_R N D T lk lp ln lc ls dc ek ep en ec es eg rk rp rn rc rs yl yr ye) : i_Rel k (nI N, nI D, ck, nI T, sa, lk, lp, ln, lc, ls, dl, ds, db, dc, dd, ek, ep, en, ec, es, eg, rk, rp, rn, rc, rs) (nI N, nI D, ck, sa, nI T, yl, yr, ye, dl, ds, db, dd) := ⟨N, D, T, ck, sa, lk, lp, ln, lc, ls, dl, ds, db, dc, dd, ek, ep, en, ec, es, eg, rk, rp, rn, rc, rs, yl, yr, ye, rfl, rfl, h⟩
end
theorem i_up {k : Nat} {u : SX} {v : SY} (h : i_Rel k u v) : i_Rel (k + 4) u v := h
