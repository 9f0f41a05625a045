/-! the reference: its inner methods and its loops, over a general post -/
section
variable {N D T : Nat} {ck sa : Int32} {yl yr ye dl ds db dd : Nat → Int32} {post : Int32 → Prop} {p dir nm sk : Int32} {j : Nat}
theorem yd_t (hN : N ≤ 16) (hj : j < N) (hk : yl (j * 5) = 2) (hp : post 1) : wpY_inUseDir post (nI N, nI D, ck, sa, nI T, yl, yr, ye, dl, ds, db, dd) (nI j) :=
  br_f (nI_pos (by omega)) (br_f (nI_ge hj (by omega)) ⟨dl_v (dl_e5 j) (by omega) (by omega), br_t ((dl_c yl (dl_e5 j) (by omega)).trans hk) hp⟩)
theorem yd_f (hN : N ≤ 16) (h : ¬ ∃ j, j < N ∧ p = nI j ∧ yl (j * 5) = 2) (hp : post 0) : wpY_inUseDir post (nI N, nI D, ck, sa, nI T, yl, yr, ye, dl, ds, db, dd) p := by
  by_cases a : dl_In N p
  · obtain ⟨j, hj, rfl⟩ := a
    exact br_f (nI_pos (by omega)) (br_f (nI_ge hj (by omega)) ⟨dl_v (dl_e5 j) (by omega) (by omega), br_f (fun z => h ⟨j, hj, rfl, (dl_c yl (dl_e5 j) (by omega)).symm.trans z⟩) hp⟩)
  · rcases dl_In_c (by omega) a with a | ⟨a, b⟩
    · exact br_t a hp
    · exact br_f a (br_t b hp)
def dl_Y (yl : Nat → Int32) (dir nm sk : Int32) (j : Nat) : Prop := nI j ≠ sk ∧ yl (j * 5) ≠ 0 ∧ yl (j * 5 + 1) = dir ∧ yl (j * 5 + 2) = nm
theorem yf_l (hN : N ≤ 16) (hp : ∀ r, dl_G (dl_Y yl dir nm sk) N 0 r → post r) : ∀ d j : Nat, j + d = N → 0 < j → (∀ i, 0 < i → i < j → ¬ dl_Y yl dir nm sk i) → wY_findEntry_3 post dir nm sk (nI N) (nI D) ck sa (nI T) yl yr ye dl ds db dd (d + 1) (nI j) := by
  intro d
  induction d with
  | zero =>
    intro j hj _ h
    exact br_t (nI_le (by omega) (by omega)) (hp _ (Or.inl ⟨rfl, fun i a b => h i a (by omega)⟩))
  | succ d ih =>
    intro j hj h0 h
    have hi : ¬ nI N ≤ nI j := nI_ge (by omega) (by omega)
    have nx : ¬ dl_Y yl dir nm sk j → wY_findEntry_3 post dir nm sk (nI N) (nI D) ck sa (nI T) yl yr ye dl ds db dd (d + 1) (nI (j + 1)) := by
      intro hn
      refine ih (j + 1) (by omega) (by omega) ?_
      intro i a b
      by_cases z : i = j
      · rw [z]; exact hn
      · exact h i a (by omega)
    by_cases hs : nI j = sk
    · exact br_f hi (br_t hs (nm_r (nI_1 j) (nx fun w => w.1 hs)))
    · by_cases hk : yl (j * 5) = 0
      · exact br_f hi (br_f hs ⟨dl_v (dl_e5 j) (by omega) (by omega), br_t ((dl_c yl (dl_e5 j) (by omega)).trans hk) (nm_r (nI_1 j) (nx fun w => w.2.1 hk))⟩)
      · by_cases hd : yl (j * 5 + 1) = dir
        · by_cases hn : yl (j * 5 + 2) = nm
          · exact br_f hi (br_f hs ⟨dl_v (dl_e5 j) (by omega) (by omega), br_f (fun z => hk ((dl_c yl (dl_e5 j) (by omega)).symm.trans z)) ⟨dl_v (dl_e5p j 1) (by omega) (by omega), br_t ((dl_c yl (dl_e5p j 1) (by omega)).trans hd) ⟨dl_v (dl_e5p j 2) (by omega) (by omega), br_t ((dl_c yl (dl_e5p j 2) (by omega)).trans hn) (hp _ (Or.inr ⟨j, h0, by omega, rfl, ⟨hs, hk, hd, hn⟩, h⟩))⟩⟩⟩)
          · exact br_f hi (br_f hs ⟨dl_v (dl_e5 j) (by omega) (by omega), br_f (fun z => hk ((dl_c yl (dl_e5 j) (by omega)).symm.trans z)) ⟨dl_v (dl_e5p j 1) (by omega) (by omega), br_t ((dl_c yl (dl_e5p j 1) (by omega)).trans hd) ⟨dl_v (dl_e5p j 2) (by omega) (by omega), br_f (fun z => hn ((dl_c yl (dl_e5p j 2) (by omega)).symm.trans z)) (nm_r (nI_1 j) (nx fun w => hn w.2.2.2))⟩⟩⟩)
        · exact br_f hi (br_f hs ⟨dl_v (dl_e5 j) (by omega) (by omega), br_f (fun z => hk ((dl_c yl (dl_e5 j) (by omega)).symm.trans z)) ⟨dl_v (dl_e5p j 1) (by omega) (by omega), br_f (fun z => hd ((dl_c yl (dl_e5p j 1) (by omega)).symm.trans z)) (nm_r (nI_1 j) (nx fun w => hd w.2.2.1))⟩⟩)
theorem yf_a (hN : N ≤ 16) (h4 : 4 ≤ N) (hp : ∀ r, dl_G (dl_Y yl dir nm sk) N 0 r → post r) : wpY_findEntry post (nI N, nI D, ck, sa, nI T, yl, yr, ye, dl, ds, db, dd) dir nm sk :=
  ⟨(N - 1) + 1, yf_l hN hp (N - 1) 1 (by omega) (by omega) (fun i a b => absurd b (by omega))⟩
end
section
variable {N D T : Nat} {ck sa : Int32} {yl yr ye dl ds db dd : Nat → Int32} {post : Int32 → SY → Prop} {x1 x2 x3 : Int32}
/-! create: the lowest free inode, looked for from above -/
def dl_P5 (yl : Nat → Int32) (j : Nat) (a b c d e : Int32) : Nat → Int32 := upd (upd (upd (upd (upd yl (j * 5) a) (j * 5 + 1) b) (j * 5 + 2) c) (j * 5 + 3) d) (j * 5 + 4) e
theorem yc_l (hN : N ≤ 16) (hp0 : (∀ j, 0 < j → j < N → ¬ yl (j * 5) = 0) → post (-5) (nI N, nI D, ck, sa, nI T, yl, yr, ye, dl, ds, db, dd)) (hp1 : ∀ j, 0 < j → j < N → yl (j * 5) = 0 → (∀ i, 0 < i → i < j → ¬ yl (i * 5) = 0) → post (nI j) (nI N, nI D, ck + 1, sa, nI T, dl_P5 yl j x3 x1 x2 0 (ck + 1), yr, ye, dl, ds, db, dd)) : ∀ (i : Nat) (r : Int32), i < N → dl_G (fun j => yl (j * 5) = 0) N i r → wY_create_62 post x1 x2 x3 (nI N) (nI D) ck sa (nI T) yl yr ye dl ds db dd (i + 1) r (nI i) := by
  intro i
  induction i with
  | zero =>
    intro r _ h
    have z1 : nI 0 < 1 := by decide +kernel
    rcases h with ⟨rfl, h⟩ | ⟨j, h0, hj, rfl, hm, hl⟩
    · exact br_t z1 (br_f (by decide) (hp0 h))
    · exact br_t z1 (br_t (nI_pos' (by omega)) (nm_e ⟨dl_v (dl_e5 j) (by omega) (by omega), nm_r (dl_u (dl_e5 j) (by omega) rfl) ⟨dl_v (dl_e5p j 1) (by omega) (by omega), nm_r (dl_u (dl_e5p j 1) (by omega) rfl) ⟨dl_v (dl_e5p j 2) (by omega) (by omega), nm_r (dl_u (dl_e5p j 2) (by omega) rfl) ⟨dl_v (dl_e5p j 3) (by omega) (by omega), nm_r (dl_u (dl_e5p j 3) (by omega) rfl) ⟨dl_v (dl_e5p j 4) (by omega) (by omega), nm_r (dl_u (dl_e5p j 4) (by omega) rfl) (hp1 j h0 hj hm hl)⟩⟩⟩⟩⟩))
  | succ i ih =>
    intro r hi h
    have z1 : ¬ nI (i + 1) < 1 := nI_nlt (b := 1) (by omega) (by omega)
    by_cases hk : yl ((i + 1) * 5) = 0
    · exact br_f z1 ⟨dl_v (dl_e5 (i + 1)) (by omega) (by omega), br_t ((dl_c yl (dl_e5 (i + 1)) (by omega)).trans hk) (nm_r (pk_m1 i) (ih _ (by omega) (dl_Gt hk hi rfl)))⟩
    · exact br_f z1 ⟨dl_v (dl_e5 (i + 1)) (by omega) (by omega), br_f (fun z => hk ((dl_c yl (dl_e5 (i + 1)) (by omega)).symm.trans z)) (nm_r (pk_m1 i) (ih _ (by omega) (dl_Gf hk h)))⟩
/-! remove: five zeros, and the search for entries -/
theorem yz_s {t f n : Nat} (ht : t < 16) (hf : f < 5) (h : wY_remove_85 post (nI t) (nI N) (nI D) ck sa (nI T) n (nI (f + 1)) (upd yl (t * 5 + f) 0) yr ye dl ds db dd) : wY_remove_85 post (nI t) (nI N) (nI D) ck sa (nI T) (n + 1) (nI f) yl yr ye dl ds db dd :=
  br_f (nI_ge (b := 5) hf (by decide)) ⟨dl_v (dl_e5p t f) (by omega) (by omega), nm_r (dl_u (dl_e5p t f) (by omega) rfl) (nm_r (nI_1 f) h)⟩
theorem yz_e {t n : Nat} (h : post 0 (nI N, nI D, ck, sa, nI T, yl, yr, ye, dl, ds, db, dd)) : wY_remove_85 post (nI t) (nI N) (nI D) ck sa (nI T) (n + 1) (nI 5) yl yr ye dl ds db dd :=
  br_t (nI_le (a := 5) (by omega) (by decide)) h
theorem yz_a {t : Nat} (ht : t < 16) (h : post 0 (nI N, nI D, ck, sa, nI T, dl_P5 yl t 0 0 0 0 0, yr, ye, dl, ds, db, dd)) : ∃ n, wY_remove_85 post (nI t) (nI N) (nI D) ck sa (nI T) n 0 yl yr ye dl ds db dd :=
  ⟨6, yz_s (f := 0) ht (by omega) (yz_s (f := 1) ht (by omega) (yz_s (f := 2) ht (by omega) (yz_s (f := 3) ht (by omega) (yz_s (f := 4) ht (by omega) (yz_e h)))))⟩
theorem yr_l {t : Nat} (hN : N ≤ 16) (ht : t < N) (hp : (∃ i, 0 < i ∧ i < N ∧ yl (i * 5) ≠ 0 ∧ yl (i * 5 + 1) = nI t) → post (-7) (nI N, nI D, ck, sa, nI T, yl, yr, ye, dl, ds, db, dd)) (hz : (∀ i, 0 < i → i < N → ¬ (yl (i * 5) ≠ 0 ∧ yl (i * 5 + 1) = nI t)) → post 0 (nI N, nI D, ck, sa, nI T, dl_P5 yl t 0 0 0 0 0, yr, ye, dl, ds, db, dd)) : ∀ d j : Nat, j + d = N → 0 < j → (∀ i, 0 < i → i < j → ¬ (yl (i * 5) ≠ 0 ∧ yl (i * 5 + 1) = nI t)) → wY_remove_41 post (nI t) (nI N) (nI D) ck sa (nI T) yl yr ye dl ds db dd (d + 1) (nI j) := by
  intro d
  induction d with
  | zero =>
    intro j hj _ h
    exact br_t (nI_le (by omega) (by omega)) (yz_a (by omega) (hz fun i a b => h i a (by omega)))
  | succ d ih =>
    intro j hj h0 h
    have hi : ¬ nI N ≤ nI j := nI_ge (by omega) (by omega)
    have nx : ¬ (yl (j * 5) ≠ 0 ∧ yl (j * 5 + 1) = nI t) → wY_remove_41 post (nI t) (nI N) (nI D) ck sa (nI T) yl yr ye dl ds db dd (d + 1) (nI (j + 1)) := by
      intro hn
      refine ih (j + 1) (by omega) (by omega) ?_
      intro i a b
      by_cases z : i = j
      · rw [z]; exact hn
      · exact h i a (by omega)
    by_cases hk : yl (j * 5) = 0
    · exact br_f hi ⟨dl_v (dl_e5 j) (by omega) (by omega), br_t ((dl_c yl (dl_e5 j) (by omega)).trans hk) (nm_r (nI_1 j) (nx fun w => w.1 hk))⟩
    · by_cases hd : yl (j * 5 + 1) = nI t
      · exact br_f hi ⟨dl_v (dl_e5 j) (by omega) (by omega), br_f (fun z => hk ((dl_c yl (dl_e5 j) (by omega)).symm.trans z)) ⟨dl_v (dl_e5p j 1) (by omega) (by omega), br_t ((dl_c yl (dl_e5p j 1) (by omega)).trans hd) (hp ⟨j, h0, by omega, hk, hd⟩)⟩⟩
      · exact br_f hi ⟨dl_v (dl_e5 j) (by omega) (by omega), br_f (fun z => hk ((dl_c yl (dl_e5 j) (by omega)).symm.trans z)) ⟨dl_v (dl_e5p j 1) (by omega) (by omega), br_f (fun z => hd ((dl_c yl (dl_e5p j 1) (by omega)).symm.trans z)) (nm_r (nI_1 j) (nx fun w => hd w.2))⟩⟩
/-! rename: the walk up -/
theorem yn_l {f : Nat → Nat} {s t : Nat} (hN : N ≤ 16) (hf : ∀ i, i < N → f i < N) (f0 : f 0 = 0) (hl : ∀ i, i < N → yl (i * 5 + 1) = nI (f i)) (hs : s < N) (ht : t < N) (t0 : 0 < t) (hp : (∃ k, k ≤ N ∧ dl_it f s k = t) → post (-8) (nI N, nI D, ck, sa, nI T, yl, yr, ye, dl, ds, db, dd)) (hq : (∀ k, k ≤ N → dl_it f s k ≠ t) → wY_rename_104 post (nI t) x2 x3 (nI N) (nI D) ck sa (nI T) yl yr ye dl ds db dd) : ∀ d m : Nat, m + d = N + 1 → (∀ k, k < m → dl_it f s k ≠ t) → wY_rename_59 post (nI t) x2 x3 (nI N) (nI D) ck sa (nI T) yl yr ye dl ds db dd (d + 1) (nI (dl_it f s m)) (nI m) := by
  intro d
  induction d with
  | zero =>
    intro m hm h
    exact br_t (nI_lt (by omega) (by omega)) (hq fun k hk => h k (by omega))
  | succ d ih =>
    intro m hm h
    have hi : ¬ nI N < nI m := nI_nlt (by omega) (by omega)
    have hx := dl_itlt hf hs m
    by_cases z : dl_it f s m = t
    · exact br_f hi (br_t (congrArg nI z) (hp ⟨m, by omega, z⟩))
    · have hz : ¬ nI (dl_it f s m) = nI t := fun w => z ((nI_eq (by omega) (by omega)).mp w)
      by_cases y : dl_it f s m = 0
      · refine br_f hi (br_f hz (br_t (congrArg nI y) (hq ?_)))
        intro k hk e
        by_cases km : k < m
        · exact h k km e
        · have e2 := dl_it0 f0 y (k - m)
          have e3 : m + (k - m) = k := by omega
          rw [e3] at e2
          omega
      · refine br_f hi (br_f hz (br_f (nI_ne0 (by omega) (by omega)) ⟨dl_v (dl_e5p _ 1) (by omega) (by omega), nm_r ((dl_c yl (dl_e5p _ 1) (by omega)).trans (hl _ hx)) (nm_r (nI_1 m) (ih (m + 1) (by omega) ?_))⟩))
        intro k hk
        by_cases w : k = m
        · rw [w]; exact z
        · exact h k (by omega)
theorem yn_a {f : Nat → Nat} {s t : Nat} (hN : N ≤ 16) (hf : ∀ i, i < N → f i < N) (f0 : f 0 = 0) (hl : ∀ i, i < N → yl (i * 5 + 1) = nI (f i)) (hs : s < N) (ht : t < N) (t0 : 0 < t) (hp : (∃ k, k ≤ N ∧ dl_it f s k = t) → post (-8) (nI N, nI D, ck, sa, nI T, yl, yr, ye, dl, ds, db, dd)) (hq : (∀ k, k ≤ N → dl_it f s k ≠ t) → wY_rename_104 post (nI t) x2 x3 (nI N) (nI D) ck sa (nI T) yl yr ye dl ds db dd) : ∃ n, wY_rename_59 post (nI t) x2 x3 (nI N) (nI D) ck sa (nI T) yl yr ye dl ds db dd n (nI s) 0 :=
  ⟨N + 1 + 1, yn_l hN hf f0 hl hs ht t0 hp hq (N + 1) 0 (by omega) (fun k hk => absurd hk (by omega))⟩
end
