/-! the component: what its inner methods answer, over a general post -/
section
variable {N D T : Nat} {ck sa : Int32} {lk lp ln lc ls dl ds db dc dd ek ep en ec es eg rk rp rn rc rs : Nat → Int32} {post : Int32 → Prop} {p dir nm : Int32} {j : Nat}
theorem xi_t (hN : N ≤ 16) (hj : j < N) (hp : post 1) : wpX_isInode post (nI N, nI D, ck, nI T, sa, lk, lp, ln, lc, ls, dl, ds, db, dc, dd, ek, ep, en, ec, es, eg, rk, rp, rn, rc, rs) (nI j) :=
  br_f (nI_pos (by omega)) (br_f (nI_ge hj (by omega)) hp)
theorem xi_f (hN : N ≤ 16) (h : ¬ dl_In N p) (hp : post 0) : wpX_isInode post (nI N, nI D, ck, nI T, sa, lk, lp, ln, lc, ls, dl, ds, db, dc, dd, ek, ep, en, ec, es, eg, rk, rp, rn, rc, rs) p := by
  rcases dl_In_c (by omega) h with a | ⟨a, b⟩
  · exact br_t a hp
  · exact br_f a (br_t b hp)
theorem xk_t (hT : T ≤ 8) (hj : j < T) (hp : post 1) : wpX_isTaken post (nI N, nI D, ck, nI T, sa, lk, lp, ln, lc, ls, dl, ds, db, dc, dd, ek, ep, en, ec, es, eg, rk, rp, rn, rc, rs) (nI j) :=
  br_f (nI_pos (by omega)) (br_f (nI_ge hj (by omega)) hp)
theorem xk_f (hT : T ≤ 8) (h : ¬ dl_In T p) (hp : post 0) : wpX_isTaken post (nI N, nI D, ck, nI T, sa, lk, lp, ln, lc, ls, dl, ds, db, dc, dd, ek, ep, en, ec, es, eg, rk, rp, rn, rc, rs) p := by
  rcases dl_In_c (by omega) h with a | ⟨a, b⟩
  · exact br_t a hp
  · exact br_f a (br_t b hp)
theorem xv_t (hj : j < 10) (hp : post 1) : wpX_isLevel post (nI j) :=
  br_f (nI_pos (by omega)) (br_f (nI_ge (b := 10) hj (by decide)) hp)
theorem xv_f (h : ¬ dl_In 10 p) (hp : post 0) : wpX_isLevel post p := by
  rcases dl_In_c (by omega) h with a | ⟨a, b⟩
  · exact br_t a hp
  · exact br_f a (br_t b hp)
theorem xn_t (a : ¬ p < 1) (b : ¬ 255 < p) (hp : post 1) : wpX_isName post p := br_f a (br_f b hp)
theorem xn_f (h : ¬ (¬ p < 1 ∧ ¬ 255 < p)) (hp : post 0) : wpX_isName post p := by
  by_cases a : p < 1
  · exact br_t a hp
  · by_cases b : 255 < p
    · exact br_f a (br_t b hp)
    · exact absurd ⟨a, b⟩ h
theorem xd_t (hN : N ≤ 16) (hj : j < N) (hk : lk j = 2) (hp : post 1) : wpX_isLiveDirectory post (nI N, nI D, ck, nI T, sa, lk, lp, ln, lc, ls, dl, ds, db, dc, dd, ek, ep, en, ec, es, eg, rk, rp, rn, rc, rs) (nI j) := by
  unfold wpX_isLiveDirectory
  refine xi_t hN hj ?_
  exact br_f dl_10 ⟨vp_in_nI (by omega) (by omega), br_t ((dl_c lk rfl (by omega)).trans hk) hp⟩
theorem xd_f (hN : N ≤ 16) (h : ¬ dl_Dr N lk p) (hp : post 0) : wpX_isLiveDirectory post (nI N, nI D, ck, nI T, sa, lk, lp, ln, lc, ls, dl, ds, db, dc, dd, ek, ep, en, ec, es, eg, rk, rp, rn, rc, rs) p := by
  unfold wpX_isLiveDirectory
  by_cases a : dl_In N p
  · obtain ⟨j, hj, rfl⟩ := a
    refine xi_t hN hj ?_
    exact br_f dl_10 ⟨vp_in_nI (by omega) (by omega), br_f (fun z => h ⟨j, hj, rfl, (dl_c lk rfl (by omega)).symm.trans z⟩) hp⟩
  · exact xi_f hN a (br_t rfl hp)
theorem xc_t (hN : N ≤ 16) (h0 : 0 < j) (hj : j < N) (hk : lk j ≠ 0) (hp : post 1) : wpX_isChangeable post (nI N, nI D, ck, nI T, sa, lk, lp, ln, lc, ls, dl, ds, db, dc, dd, ek, ep, en, ec, es, eg, rk, rp, rn, rc, rs) (nI j) := by
  unfold wpX_isChangeable
  refine xi_t hN hj ?_
  exact br_f dl_10 (br_f (nI_ne0 h0 (by omega)) ⟨vp_in_nI (by omega) (by omega), br_f (fun z => hk ((dl_c lk rfl (by omega)).symm.trans z)) hp⟩)
theorem xc_f (hN : N ≤ 16) (h : ¬ dl_Ch N lk p) (hp : post 0) : wpX_isChangeable post (nI N, nI D, ck, nI T, sa, lk, lp, ln, lc, ls, dl, ds, db, dc, dd, ek, ep, en, ec, es, eg, rk, rp, rn, rc, rs) p := by
  unfold wpX_isChangeable
  by_cases a : dl_In N p
  · obtain ⟨j, hj, rfl⟩ := a
    refine xi_t hN hj ?_
    refine br_f dl_10 ?_
    by_cases z : j = 0
    · subst z
      exact br_t nI_0 hp
    · have hk : lk j = 0 := Classical.byContradiction fun w => h ⟨j, by omega, hj, rfl, w⟩
      exact br_f (nI_ne0 (by omega) (by omega)) ⟨vp_in_nI (by omega) (by omega), br_t ((dl_c lk rfl (by omega)).trans hk) hp⟩
  · exact xi_f hN a (br_t rfl hp)
theorem xw_t {b : Int32} (hN : N ≤ 16) (h0 : 0 < j) (hj : j < N) (hk : lk j ≠ 0) (hs : ¬ ls j ≤ b) (hp : post 1) : wpX_isNewerThan post (nI N, nI D, ck, nI T, sa, lk, lp, ln, lc, ls, dl, ds, db, dc, dd, ek, ep, en, ec, es, eg, rk, rp, rn, rc, rs) (nI j) b := by
  unfold wpX_isNewerThan
  refine xc_t hN h0 hj hk ?_
  exact br_f dl_10 ⟨vp_in_nI (by omega) (by omega), br_f (by rw [dl_c ls rfl (by omega)]; exact hs) hp⟩
theorem xw_f {b : Int32} (hN : N ≤ 16) (hj : j < N) (h : ¬ (0 < j ∧ lk j ≠ 0 ∧ ¬ ls j ≤ b)) (hp : post 0) : wpX_isNewerThan post (nI N, nI D, ck, nI T, sa, lk, lp, ln, lc, ls, dl, ds, db, dc, dd, ek, ep, en, ec, es, eg, rk, rp, rn, rc, rs) (nI j) b := by
  unfold wpX_isNewerThan
  by_cases a : 0 < j ∧ lk j ≠ 0
  · have hs : ls j ≤ b := Classical.byContradiction fun w => h ⟨a.1, a.2, w⟩
    refine xc_t hN a.1 hj a.2 ?_
    exact br_f dl_10 ⟨vp_in_nI (by omega) (by omega), br_t (by rw [dl_c ls rfl (by omega)]; exact hs) hp⟩
  · refine xc_f hN ?_ (br_t rfl hp)
    intro ⟨i, hi0, hi, e, hk⟩
    have e2 : j = i := (nI_eq (by omega) (by omega)).mp e
    subst e2
    exact a ⟨hi0, hk⟩
theorem xe_t (hN : N ≤ 16) (h0 : 0 < j) (hj : j < N) (hk : lk j ≠ 0) (hd : lp j = dir) (hp : post 1) : wpX_isEntryOf post (nI N, nI D, ck, nI T, sa, lk, lp, ln, lc, ls, dl, ds, db, dc, dd, ek, ep, en, ec, es, eg, rk, rp, rn, rc, rs) (nI j) dir :=
  br_f (nI_ne0 h0 (by omega)) ⟨vp_in_nI (by omega) (by omega), br_f (fun z => hk ((dl_c lk rfl (by omega)).symm.trans z)) ⟨vp_in_nI (by omega) (by omega), br_t ((dl_c lp rfl (by omega)).trans hd) hp⟩⟩
theorem xe_f (hN : N ≤ 16) (hj : j < N) (h : ¬ (0 < j ∧ lk j ≠ 0 ∧ lp j = dir)) (hp : post 0) : wpX_isEntryOf post (nI N, nI D, ck, nI T, sa, lk, lp, ln, lc, ls, dl, ds, db, dc, dd, ek, ep, en, ec, es, eg, rk, rp, rn, rc, rs) (nI j) dir := by
  by_cases z : j = 0
  · subst z
    exact br_t nI_0 hp
  · by_cases hk : lk j = 0
    · exact br_f (nI_ne0 (by omega) (by omega)) ⟨vp_in_nI (by omega) (by omega), br_t ((dl_c lk rfl (by omega)).trans hk) hp⟩
    · exact br_f (nI_ne0 (by omega) (by omega)) ⟨vp_in_nI (by omega) (by omega), br_f (fun z => hk ((dl_c lk rfl (by omega)).symm.trans z)) ⟨vp_in_nI (by omega) (by omega), br_f (fun w => h ⟨by omega, hk, (dl_c lp rfl (by omega)).symm.trans w⟩) hp⟩⟩
theorem xf_l (hN : N ≤ 16) (hp : ∀ r, dl_G (fun j => lk j ≠ 0 ∧ lp j = dir ∧ ln j = nm) N 0 r → post r) : ∀ d j : Nat, j + d = N → (∀ i, 0 < i → i < j → ¬ (lk i ≠ 0 ∧ lp i = dir ∧ ln i = nm)) → wX_findEntry_2 post dir nm (nI N) (nI D) ck (nI T) sa lk lp ln lc ls dl ds db dc dd ek ep en ec es eg rk rp rn rc rs (d + 1) (nI j) := by
  intro d
  induction d with
  | zero =>
    intro j hj h
    exact br_t (nI_le (by omega) (by omega)) (hp _ (Or.inl ⟨rfl, fun i a b => h i a (by omega)⟩))
  | succ d ih =>
    intro j hj h
    have hi : ¬ nI N ≤ nI j := nI_ge (by omega) (by omega)
    have nx : ¬ (0 < j ∧ lk j ≠ 0 ∧ lp j = dir ∧ ln j = nm) → ∀ i, 0 < i → i < j + 1 → ¬ (lk i ≠ 0 ∧ lp i = dir ∧ ln i = nm) := by
      intro hn i a b
      by_cases z : i = j
      · subst z
        exact fun w => hn ⟨a, w⟩
      · exact h i a (by omega)
    by_cases he : 0 < j ∧ lk j ≠ 0 ∧ lp j = dir
    · obtain ⟨h0, hk, hd⟩ := he
      refine br_f hi (xe_t hN h0 (by omega) hk hd ?_)
      refine br_f dl_10 ⟨vp_in_nI (by omega) (by omega), ?_⟩
      by_cases hn : ln j = nm
      · exact br_t ((dl_c ln rfl (by omega)).trans hn) (hp _ (Or.inr ⟨j, h0, by omega, rfl, ⟨hk, hd, hn⟩, h⟩))
      · exact br_f (fun z => hn ((dl_c ln rfl (by omega)).symm.trans z)) (nm_r (nI_1 j) (ih (j + 1) (by omega) (nx fun w => hn w.2.2.2)))
    · refine br_f hi (xe_f hN (by omega) he ?_)
      exact br_t rfl (nm_r (nI_1 j) (ih (j + 1) (by omega) (nx fun w => he ⟨w.1, w.2.1, w.2.2.1⟩)))
theorem xf_a (hN : N ≤ 16) (hp : ∀ r, dl_G (fun j => lk j ≠ 0 ∧ lp j = dir ∧ ln j = nm) N 0 r → post r) : wpX_findEntry post (nI N, nI D, ck, nI T, sa, lk, lp, ln, lc, ls, dl, ds, db, dc, dd, ek, ep, en, ec, es, eg, rk, rp, rn, rc, rs) dir nm :=
  ⟨N + 1, xf_l hN hp N 0 (by omega) (fun i _ b => absurd b (by omega))⟩
theorem xh_l (hN : N ≤ 16) (hp1 : (∃ i, 0 < i ∧ i < N ∧ lk i ≠ 0 ∧ lp i = dir) → post 1) (hp0 : (∀ i, 0 < i → i < N → ¬ (lk i ≠ 0 ∧ lp i = dir)) → post 0) : ∀ d j : Nat, j + d = N → (∀ i, 0 < i → i < j → ¬ (lk i ≠ 0 ∧ lp i = dir)) → wX_hasEntries_2 post dir (nI N) (nI D) ck (nI T) sa lk lp ln lc ls dl ds db dc dd ek ep en ec es eg rk rp rn rc rs (d + 1) (nI j) := by
  intro d
  induction d with
  | zero =>
    intro j hj h
    exact br_t (nI_le (by omega) (by omega)) (hp0 fun i a b => h i a (by omega))
  | succ d ih =>
    intro j hj h
    have hi : ¬ nI N ≤ nI j := nI_ge (by omega) (by omega)
    by_cases he : 0 < j ∧ lk j ≠ 0 ∧ lp j = dir
    · obtain ⟨h0, hk, hd⟩ := he
      refine br_f hi (xe_t hN h0 (by omega) hk hd ?_)
      exact br_f dl_10 (hp1 ⟨j, h0, by omega, hk, hd⟩)
    · refine br_f hi (xe_f hN (by omega) he ?_)
      refine br_t rfl (nm_r (nI_1 j) (ih (j + 1) (by omega) ?_))
      intro i a b
      by_cases z : i = j
      · subst z
        exact fun w => he ⟨a, w⟩
      · exact h i a (by omega)
theorem xh_a (hN : N ≤ 16) (hp1 : (∃ i, 0 < i ∧ i < N ∧ lk i ≠ 0 ∧ lp i = dir) → post 1) (hp0 : (∀ i, 0 < i → i < N → ¬ (lk i ≠ 0 ∧ lp i = dir)) → post 0) : wpX_hasEntries post (nI N, nI D, ck, nI T, sa, lk, lp, ln, lc, ls, dl, ds, db, dc, dd, ek, ep, en, ec, es, eg, rk, rp, rn, rc, rs) dir :=
  ⟨N + 1, xh_l hN hp1 hp0 N 0 (by omega) (fun i _ b => absurd b (by omega))⟩
theorem xl_l (hN : N ≤ 16) (h2 : lk 0 = 2) (hp : ∀ r, dl_G (fun j => lk j = 0) N 0 r → post r) : ∀ d j : Nat, j + d = N → (∀ i, 0 < i → i < j → ¬ lk i = 0) → wX_lowestFreeInode_2 post (nI N) (nI D) ck (nI T) sa lk lp ln lc ls dl ds db dc dd ek ep en ec es eg rk rp rn rc rs (d + 1) (nI j) := by
  intro d
  induction d with
  | zero =>
    intro j hj h
    exact br_t (nI_le (by omega) (by omega)) (hp _ (Or.inl ⟨rfl, fun i a b => h i a (by omega)⟩))
  | succ d ih =>
    intro j hj h
    have hi : ¬ nI N ≤ nI j := nI_ge (by omega) (by omega)
    by_cases hk : lk j = 0
    · have h0 : 0 < j := by
        refine Nat.pos_of_ne_zero fun e => ?_
        rw [e, h2] at hk
        exact absurd hk (by decide)
      exact br_f hi ⟨vp_in_nI (by omega) (by omega), br_t ((dl_c lk rfl (by omega)).trans hk) (hp _ (Or.inr ⟨j, h0, by omega, rfl, hk, h⟩))⟩
    · refine br_f hi ⟨vp_in_nI (by omega) (by omega), br_f (fun z => hk ((dl_c lk rfl (by omega)).symm.trans z)) (nm_r (nI_1 j) (ih (j + 1) (by omega) ?_))⟩
      intro i a b
      by_cases z : i = j
      · subst z
        exact hk
      · exact h i a (by omega)
theorem xl_a (hN : N ≤ 16) (h2 : lk 0 = 2) (hp : ∀ r, dl_G (fun j => lk j = 0) N 0 r → post r) : wpX_lowestFreeInode post (nI N, nI D, ck, nI T, sa, lk, lp, ln, lc, ls, dl, ds, db, dc, dd, ek, ep, en, ec, es, eg, rk, rp, rn, rc, rs) :=
  ⟨N + 1, xl_l hN h2 hp N 0 (by omega) (fun i _ b => absurd b (by omega))⟩
theorem xb_l {f : Nat → Nat} {s t : Nat} (hN : N ≤ 16) (hf : ∀ i, i < N → f i < N) (hl : ∀ i, i < N → lp i = nI (f i)) (hs : s < N) (ht : t < N) (hp1 : (∃ k, k < N ∧ dl_it f s k = t) → post 1) (hp0 : (∀ k, k < N → dl_it f s k ≠ t) → post 0) : ∀ d m : Nat, m + d = N → (∀ k, k < m → dl_it f s k ≠ t) → wX_isAtOrBelow_5 post (nI t) (nI N) (nI D) ck (nI T) sa lk lp ln lc ls dl ds db dc dd ek ep en ec es eg rk rp rn rc rs (d + 1) (nI (dl_it f s m)) (nI m) := by
  intro d
  induction d with
  | zero =>
    intro m hm h
    exact br_t (nI_le (by omega) (by omega)) (hp0 fun k hk => h k (by omega))
  | succ d ih =>
    intro m hm h
    have hi : ¬ nI N ≤ nI m := nI_ge (by omega) (by omega)
    have hx := dl_itlt hf hs m
    by_cases z : dl_it f s m = t
    · exact br_f hi (br_t (congrArg nI z) (hp1 ⟨m, by omega, z⟩))
    · refine br_f hi (br_f (fun w => z ((nI_eq (by omega) (by omega)).mp w)) ⟨vp_in_nI (by omega) (by omega), nm_r ((dl_c lp rfl (by omega)).trans (hl _ hx)) (nm_r (nI_1 m) (ih (m + 1) (by omega) ?_))⟩)
      intro k hk
      by_cases y : k = m
      · rw [y]; exact z
      · exact h k (by omega)
theorem xb_a {f : Nat → Nat} {s t : Nat} (hN : N ≤ 16) (hf : ∀ i, i < N → f i < N) (hl : ∀ i, i < N → lp i = nI (f i)) (hs : s < N) (ht : t < N) (hp1 : (∃ k, k < N ∧ dl_it f s k = t) → post 1) (hp0 : (∀ k, k < N → dl_it f s k ≠ t) → post 0) : wpX_isAtOrBelow post (nI N, nI D, ck, nI T, sa, lk, lp, ln, lc, ls, dl, ds, db, dc, dd, ek, ep, en, ec, es, eg, rk, rp, rn, rc, rs) (nI s) (nI t) :=
  ⟨N + 1, xb_l hN hf hl hs ht hp1 hp0 N 0 (by omega) (fun k hk => absurd hk (by omega))⟩
theorem xq_a (w : Nat) (hw : w ≤ 4) {a b c d e r : Int32} (hr : (w = 0 ∧ r = a) ∨ (w = 1 ∧ r = b) ∨ (w = 2 ∧ r = c) ∨ (w = 3 ∧ r = d) ∨ (w = 4 ∧ r = e)) (hp : post r) : wpX_chooseField post (nI w) a b c d e := by
  rcases hr with ⟨rfl, rfl⟩ | ⟨rfl, rfl⟩ | ⟨rfl, rfl⟩ | ⟨rfl, rfl⟩ | ⟨rfl, rfl⟩
  · exact br_f (by decide +kernel) (br_f (by decide +kernel) (br_t rfl hp))
  · exact br_f (by decide +kernel) (br_f (by decide +kernel) (br_f (by decide +kernel) (br_t rfl hp)))
  · exact br_f (by decide +kernel) (br_f (by decide +kernel) (br_f (by decide +kernel) (br_f (by decide +kernel) (br_t rfl hp))))
  · exact br_f (by decide +kernel) (br_f (by decide +kernel) (br_f (by decide +kernel) (br_f (by decide +kernel) (br_f (by decide +kernel) (br_t rfl hp)))))
  · exact br_f (by decide +kernel) (br_f (by decide +kernel) (br_f (by decide +kernel) (br_f (by decide +kernel) (br_f (by decide +kernel) (br_f (by decide +kernel) (br_t rfl hp))))))
theorem xq_f {a b c d e : Int32} (h : p < 0 ∨ (¬ p < 0 ∧ 4 < p)) (hp : post (-1)) : wpX_chooseField post p a b c d e := by
  rcases h with h | ⟨h, h2⟩
  · exact br_t h hp
  · exact br_f h (br_t h2 hp)
end
