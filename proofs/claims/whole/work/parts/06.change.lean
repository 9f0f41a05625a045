/-! the reference's opening of write, remove and rename -/
theorem yp_t {N j : Nat} {yl : Nat → Int32} {E B : Prop} (hN : N ≤ 16) (h0 : 0 < j) (hj : j < N) (hk : yl (j * 5) ≠ 0) (hb : B) : (nI j < 1 → E) ∧ (¬ nI j < 1 → ((nI N ≤ nI j → E) ∧ (¬ nI N ≤ nI j → (vp_in (nI j * 5) 80 ∧ ((yl (nI j * 5).toNatClampNeg = 0 → E) ∧ (¬ yl (nI j * 5).toNatClampNeg = 0 → B)))))) :=
  br_f (nI_nlt (b := 1) h0 (by omega)) (br_f (nI_ge hj (by omega)) ⟨dl_v (dl_e5 j) (by omega) (by omega), br_f (fun z => hk ((dl_c yl (dl_e5 j) (by omega)).symm.trans z)) hb⟩)
theorem yp_f {N : Nat} {p : Int32} {yl : Nat → Int32} {E B : Prop} (hN : N ≤ 16) (h : ¬ dl_Ch N (fun j => yl (j * 5)) p) (he : E) : (p < 1 → E) ∧ (¬ p < 1 → ((nI N ≤ p → E) ∧ (¬ nI N ≤ p → (vp_in (p * 5) 80 ∧ ((yl (p * 5).toNatClampNeg = 0 → E) ∧ (¬ yl (p * 5).toNatClampNeg = 0 → B)))))) := by
  by_cases a : p < 1
  · exact br_t a he
  · by_cases b : nI N ≤ p
    · exact br_f a (br_t b he)
    · have h0 : ¬ p < 0 := fun z => a (Int32.lt_trans z (by decide))
      obtain ⟨j, hj, rfl⟩ := nI_of h0
      have j0 : 0 < j := by
        refine Nat.pos_of_ne_zero fun e => a ?_
        rw [e]
        decide +kernel
      have jN : j < N := by
        rw [nI_leI (by omega) hj] at b
        omega
      have hk : yl (j * 5) = 0 := Classical.byContradiction fun w => h ⟨j, j0, jN, rfl, w⟩
      exact br_f a (br_f b ⟨dl_v (dl_e5 j) (by omega) (by omega), br_t ((dl_c yl (dl_e5 j) (by omega)).trans hk) he⟩)
theorem dl_ChY {N : Nat} {p : Int32} {lk lp ln lc ls yl : Nat → Int32} (HL : dl_L N lk lp ln lc ls yl) (h : ¬ dl_Ch N lk p) : ¬ dl_Ch N (fun j => yl (j * 5)) p := by
  intro ⟨j, h0, hj, e, hk⟩
  refine h ⟨j, h0, hj, e, ?_⟩
  rw [← (HL j hj).1]
  exact hk
theorem dl_DrY {N : Nat} {p : Int32} {lk lp ln lc ls yl : Nat → Int32} (HL : dl_L N lk lp ln lc ls yl) (h : ¬ dl_Dr N lk p) : ¬ ∃ j, j < N ∧ p = nI j ∧ yl (j * 5) = 2 := by
  intro ⟨j, hj, e, hk⟩
  refine h ⟨j, hj, e, ?_⟩
  rw [← (HL j hj).1]
  exact hk
section
variable {N D T : Nat} {ck sa : Int32} {yl yr ye dl ds db dd : Nat → Int32} {post : Int32 → SY → Prop} {p x2 x3 : Int32} {j : Nat}
theorem yw_f (hN : N ≤ 16) (h : ¬ dl_Ch N (fun j => yl (j * 5)) p) (hp : post (-6) (nI N, nI D, ck, sa, nI T, yl, yr, ye, dl, ds, db, dd)) : wpY_write post (nI N, nI D, ck, sa, nI T, yl, yr, ye, dl, ds, db, dd) p x2 := yp_f hN h hp
theorem yw_d (hN : N ≤ 16) (h0 : 0 < j) (hj : j < N) (hk : yl (j * 5) ≠ 0) (h2 : yl (j * 5) = 2) (hp : post (-1) (nI N, nI D, ck, sa, nI T, yl, yr, ye, dl, ds, db, dd)) : wpY_write post (nI N, nI D, ck, sa, nI T, yl, yr, ye, dl, ds, db, dd) (nI j) x2 :=
  yp_t hN h0 hj hk ⟨dl_v (dl_e5 j) (by omega) (by omega), br_t ((dl_c yl (dl_e5 j) (by omega)).trans h2) hp⟩
theorem yw_t (hN : N ≤ 16) (h0 : 0 < j) (hj : j < N) (hk : yl (j * 5) ≠ 0) (h2 : ¬ yl (j * 5) = 2) (hp : post 0 (nI N, nI D, ck + 1, sa, nI T, upd (upd yl (j * 5 + 3) x2) (j * 5 + 4) (ck + 1), yr, ye, dl, ds, db, dd)) : wpY_write post (nI N, nI D, ck, sa, nI T, yl, yr, ye, dl, ds, db, dd) (nI j) x2 :=
  yp_t hN h0 hj hk ⟨dl_v (dl_e5 j) (by omega) (by omega), br_f (fun z => h2 ((dl_c yl (dl_e5 j) (by omega)).symm.trans z)) (nm_e ⟨dl_v (dl_e5p j 3) (by omega) (by omega), nm_r (dl_u (dl_e5p j 3) (by omega) rfl) ⟨dl_v (dl_e5p j 4) (by omega) (by omega), nm_r (dl_u (dl_e5p j 4) (by omega) rfl) hp⟩⟩)⟩
end
theorem i_vc_write {k : Nat} {u : SX} {v : SY} (I : i_Rel k u v) (hk : k + 4 ≤ 2050) (v1 : Int32) (v2 : Int32) : wpX_write (fun r u' => wpY_write (fun r' v' => r' = r ∧ i_Rel (k + 4) u' v') v v1 v2) u v1 v2 := by
  obtain ⟨N, D, T, ck, sa, lk, lp, ln, lc, ls, dl, ds, db, dc, dd, ek, ep, en, ec, es, eg, rk, rp, rn, rc, rs, yl, yr, ye, rfl, rfl, R⟩ := I
  obtain ⟨h4, hN, hD, hT, HL, HT, HE, HR⟩ := id R
  unfold wpX_write
  by_cases c : dl_Ch N lk v1
  · obtain ⟨j, h0, hj, rfl, hk⟩ := c
    have hv : vp_in (nI j) 16 := vp_in_nI (by omega) (by omega)
    have yk : yl (j * 5) = lk j := (HL j hj).1
    refine xc_t hN h0 hj hk ?_
    by_cases k2 : lk j = 2
    · exact br_f dl_10 ⟨hv, br_t ((dl_c lk rfl (by omega)).trans k2) (yw_d hN h0 hj (by rw [yk]; exact hk) (by rw [yk]; exact k2) ⟨rfl, dl_mk R⟩)⟩
    · exact br_f dl_10 ⟨hv, br_f (fun z => k2 ((dl_c lk rfl (by omega)).symm.trans z)) (nm_e ⟨hv, nm_r (dl_u rfl (by omega) rfl) ⟨hv, nm_r (dl_u rfl (by omega) rfl) (yw_t hN h0 hj (by rw [yk]; exact hk) (by rw [yk]; exact k2) ⟨rfl, dl_mk ⟨h4, hN, hD, hT, dl_L4 (dl_L3 HL), HT, HE, HR⟩⟩)⟩⟩)⟩
  · refine xc_f hN c ?_
    exact br_t rfl (yw_f hN (dl_ChY HL c) ⟨rfl, dl_mk R⟩)
/-! create -/
section
variable {N D T : Nat} {ck sa : Int32} {yl yr ye dl ds db dd : Nat → Int32} {post : Int32 → SY → Prop} {p x2 x3 : Int32} {j : Nat}
theorem ycr_d (hN : N ≤ 16) (h : ¬ ∃ j, j < N ∧ p = nI j ∧ yl (j * 5) = 2) (hp : post (-2) (nI N, nI D, ck, sa, nI T, yl, yr, ye, dl, ds, db, dd)) : wY_create_12 post p x2 x3 (nI N) (nI D) ck sa (nI T) yl yr ye dl ds db dd := by
  unfold wY_create_12
  refine yd_f hN h ?_
  exact br_t rfl hp
theorem ycr_n (hN : N ≤ 16) (hj : j < N) (hd : yl (j * 5) = 2) (h : ¬ (¬ x2 < 1 ∧ ¬ 255 < x2)) (hp : post (-3) (nI N, nI D, ck, sa, nI T, yl, yr, ye, dl, ds, db, dd)) : wY_create_12 post (nI j) x2 x3 (nI N) (nI D) ck sa (nI T) yl yr ye dl ds db dd := by
  unfold wY_create_12
  refine yd_t hN hj hd ?_
  by_cases a : x2 < 1
  · exact br_f dl_10 (br_t a hp)
  · by_cases b : 255 < x2
    · exact br_f dl_10 (br_f a (br_f (Int32.not_le.mpr b) hp))
    · exact absurd ⟨a, b⟩ h
theorem ycr_t (hN : N ≤ 16) (h4 : 4 ≤ N) (hj : j < N) (hd : yl (j * 5) = 2) (a : ¬ x2 < 1) (b : ¬ 255 < x2) (hp4 : (∃ i, 0 < i ∧ i < N ∧ dl_Y yl (nI j) x2 (-1) i) → post (-4) (nI N, nI D, ck, sa, nI T, yl, yr, ye, dl, ds, db, dd)) (hp5 : (∀ i, 0 < i → i < N → ¬ dl_Y yl (nI j) x2 (-1) i) → (∀ i, 0 < i → i < N → ¬ yl (i * 5) = 0) → post (-5) (nI N, nI D, ck, sa, nI T, yl, yr, ye, dl, ds, db, dd)) (hp1 : (∀ i, 0 < i → i < N → ¬ dl_Y yl (nI j) x2 (-1) i) → ∀ t, 0 < t → t < N → yl (t * 5) = 0 → (∀ i, 0 < i → i < t → ¬ yl (i * 5) = 0) → post (nI t) (nI N, nI D, ck + 1, sa, nI T, dl_P5 yl t x3 (nI j) x2 0 (ck + 1), yr, ye, dl, ds, db, dd)) : wY_create_12 post (nI j) x2 x3 (nI N) (nI D) ck sa (nI T) yl yr ye dl ds db dd := by
  unfold wY_create_12
  refine yd_t hN hj hd ?_
  refine br_f dl_10 (br_f a (br_t (Int32.not_lt.mp b) ?_))
  refine yf_a hN h4 ?_
  intro r hr
  rcases hr with ⟨rfl, hn⟩ | ⟨i, i0, hi, rfl, hm, hl⟩
  · have e : nI N - 1 = nI (N - 1) := by
      obtain ⟨m, rfl⟩ : ∃ m, N = m + 1 := ⟨N - 1, by omega⟩
      exact nI_pred m
    exact br_t dl_m0 (nm_r e ⟨N - 1 + 1, yc_l hN (hp5 hn) (hp1 hn) (N - 1) (-1) (by omega) (Or.inl ⟨rfl, fun i a b => absurd b (by omega)⟩)⟩)
  · exact br_f (nI_pos (by omega)) (hp4 ⟨i, i0, hi, hm⟩)
end
theorem dl_create {k : Nat} {N D T : Nat} {ck sa : Int32} {lk lp ln lc ls dl ds db dc dd ek ep en ec es eg rk rp rn rc rs yl yr ye : Nat → Int32} {v1 v2 v3 : Int32} (R : dl_R N D T lk lp ln lc ls dc ek ep en ec es eg rk rp rn rc rs yl yr ye) (W : ∀ (r : Int32) (u' : SX), wY_create_12 (fun r' v' => r' = r ∧ i_Rel k u' v') v1 v2 v3 (nI N) (nI D) ck sa (nI T) yl yr ye dl ds db dd → wpY_create (fun r' v' => r' = r ∧ i_Rel k u' v') (nI N, nI D, ck, sa, nI T, yl, yr, ye, dl, ds, db, dd) v1 v2 v3) : wX_create_12 (fun r u' => wpY_create (fun r' v' => r' = r ∧ i_Rel k u' v') (nI N, nI D, ck, sa, nI T, yl, yr, ye, dl, ds, db, dd) v1 v2 v3) v1 v2 v3 (nI N) (nI D) ck (nI T) sa lk lp ln lc ls dl ds db dc dd ek ep en ec es eg rk rp rn rc rs := by
  obtain ⟨h4, hN, hD, hT, HL, HT, HE, HR⟩ := id R
  unfold wX_create_12
  by_cases c : dl_Dr N lk v1
  · obtain ⟨q, hq, rfl, hd⟩ := c
    have yd : yl (q * 5) = 2 := (HL q hq).1.trans hd
    refine xd_t hN hq hd ?_
    refine br_f dl_10 ?_
    by_cases n : ¬ v2 < 1 ∧ ¬ 255 < v2
    · refine xn_t n.1 n.2 ?_
      refine br_f dl_10 ?_
      refine xf_a hN ?_
      intro r hr
      rcases hr with ⟨rfl, hn⟩ | ⟨i, i0, hi, rfl, hm, hl⟩
      · refine br_t rfl ?_
        refine xl_a hN HT.1 ?_
        intro r hr
        rcases hr with ⟨rfl, hf⟩ | ⟨t, t0, ht, rfl, hk, hl⟩
        · refine br_t rfl ?_
          refine W _ _ (ycr_t hN h4 hq yd n.1 n.2 ?_ ?_ ?_)
          · intro ⟨i, i0, hi, hm⟩
            exact absurd ((dl_MY HL hN hi).mpr hm) (hn i i0 hi)
          · intro _ _
            exact ⟨rfl, dl_mk R⟩
          · intro _ t t0 ht hz _
            exact absurd ((HL t ht).1.symm.trans hz) (hf t t0 ht)
        · have hv : vp_in (nI t) 16 := vp_in_nI (by omega) (by omega)
          refine br_f (dl_m1 (by omega)) (nm_e ⟨hv, nm_r (dl_u rfl (by omega) rfl) ⟨hv, nm_r (dl_u rfl (by omega) rfl) ⟨hv, nm_r (dl_u rfl (by omega) rfl) ⟨hv, nm_r (dl_u rfl (by omega) rfl) ⟨hv, nm_r (dl_u rfl (by omega) rfl) ?_⟩⟩⟩⟩⟩)
          refine W _ _ (ycr_t hN h4 hq yd n.1 n.2 ?_ ?_ ?_)
          · intro ⟨i, i0, hi, hm⟩
            exact absurd ((dl_MY HL hN hi).mpr hm) (hn i i0 hi)
          · intro _ hz
            exact absurd ((HL t ht).1.trans hk) (hz t t0 ht)
          · intro _ t' t0' ht' hz hl'
            have h1 : ¬ t < t' := fun w => hl' t t0 w ((HL t ht).1.trans hk)
            have h2 : ¬ t' < t := fun w => hl t' t0' w ((HL t' ht').1.symm.trans hz)
            have e : t' = t := by omega
            subst e
            exact ⟨rfl, dl_mk ⟨h4, hN, hD, hT, dl_L4 (dl_L3 (dl_L2 (dl_L1 (dl_L0 HL)))), dl_Tcreate HT t0 ht hk hq hd hn, HE, HR⟩⟩
      · refine br_f (dl_m1 (by omega)) ?_
        refine W _ _ (ycr_t hN h4 hq yd n.1 n.2 ?_ ?_ ?_)
        · intro _
          exact ⟨rfl, dl_mk R⟩
        · intro hn _
          exact absurd ((dl_MY HL hN hi).mp hm) (hn i i0 hi)
        · intro hn
          exact absurd ((dl_MY HL hN hi).mp hm) (hn i i0 hi)
    · refine xn_f n ?_
      exact br_t rfl (W _ _ (ycr_n hN hq yd n ⟨rfl, dl_mk R⟩))
  · refine xd_f hN c ?_
    exact br_t rfl (W _ _ (ycr_d hN (dl_DrY HL c) ⟨rfl, dl_mk R⟩))
theorem i_vc_create {k : Nat} {u : SX} {v : SY} (I : i_Rel k u v) (hk : k + 4 ≤ 2050) (v1 : Int32) (v2 : Int32) (v3 : Int32) : wpX_create (fun r u' => wpY_create (fun r' v' => r' = r ∧ i_Rel (k + 4) u' v') v v1 v2 v3) u v1 v2 v3 := by
  obtain ⟨N, D, T, ck, sa, lk, lp, ln, lc, ls, dl, ds, db, dc, dd, ek, ep, en, ec, es, eg, rk, rp, rn, rc, rs, yl, yr, ye, rfl, rfl, R⟩ := I
  obtain ⟨h4, hN, hD, hT, HL, HT, HE, HR⟩ := id R
  by_cases k1 : v3 = 1
  · have h := dl_create (k := k + 4) (ck := ck) (sa := sa) (dl := dl) (ds := ds) (db := db) (dd := dd) (v1 := v1) (v2 := v2) (v3 := v3) R (fun _ _ h => br_t k1 h)
    exact br_t k1 h
  · by_cases k2 : v3 = 2
    · have h := dl_create (k := k + 4) (ck := ck) (sa := sa) (dl := dl) (ds := ds) (db := db) (dd := dd) (v1 := v1) (v2 := v2) (v3 := v3) R (fun _ _ h => br_f k1 (br_t k2 h))
      exact br_f k1 (br_t k2 h)
    · exact br_f k1 (br_f k2 (br_f k1 (br_f k2 ⟨rfl, dl_mk R⟩)))
/-! remove -/
section
variable {N D T : Nat} {ck sa : Int32} {yl yr ye dl ds db dd : Nat → Int32} {post : Int32 → SY → Prop} {p : Int32} {t : Nat}
theorem yre_f (hN : N ≤ 16) (h : ¬ dl_Ch N (fun j => yl (j * 5)) p) (hp : post (-6) (nI N, nI D, ck, sa, nI T, yl, yr, ye, dl, ds, db, dd)) : wpY_remove post (nI N, nI D, ck, sa, nI T, yl, yr, ye, dl, ds, db, dd) p := yp_f hN h hp
theorem yre_t (hN : N ≤ 16) (h4 : 4 ≤ N) (h0 : 0 < t) (ht : t < N) (hk : yl (t * 5) ≠ 0) (hp : yl (t * 5) = 2 → (∃ i, 0 < i ∧ i < N ∧ yl (i * 5) ≠ 0 ∧ yl (i * 5 + 1) = nI t) → post (-7) (nI N, nI D, ck, sa, nI T, yl, yr, ye, dl, ds, db, dd)) (hz : (yl (t * 5) = 2 → ∀ i, 0 < i → i < N → ¬ (yl (i * 5) ≠ 0 ∧ yl (i * 5 + 1) = nI t)) → post 0 (nI N, nI D, ck, sa, nI T, dl_P5 yl t 0 0 0 0 0, yr, ye, dl, ds, db, dd)) : wpY_remove post (nI N, nI D, ck, sa, nI T, yl, yr, ye, dl, ds, db, dd) (nI t) := by
  refine yp_t hN h0 ht hk ⟨dl_v (dl_e5 t) (by omega) (by omega), ?_⟩
  by_cases k2 : yl (t * 5) = 2
  · exact br_t ((dl_c yl (dl_e5 t) (by omega)).trans k2) ⟨N - 1 + 1, yr_l hN ht (hp k2) (fun h => hz fun _ => h) (N - 1) 1 (by omega) (by omega) (fun i a b => absurd b (by omega))⟩
  · exact br_f (fun z => k2 ((dl_c yl (dl_e5 t) (by omega)).symm.trans z)) (yz_a (by omega) (hz fun z => absurd z k2))
end
theorem i_vc_remove {k : Nat} {u : SX} {v : SY} (I : i_Rel k u v) (hk : k + 4 ≤ 2050) (v1 : Int32) : wpX_remove (fun r u' => wpY_remove (fun r' v' => r' = r ∧ i_Rel (k + 4) u' v') v v1) u v1 := by
  obtain ⟨N, D, T, ck, sa, lk, lp, ln, lc, ls, dl, ds, db, dc, dd, ek, ep, en, ec, es, eg, rk, rp, rn, rc, rs, yl, yr, ye, rfl, rfl, R⟩ := I
  obtain ⟨h4, hN, hD, hT, HL, HT, HE, HR⟩ := id R
  unfold wpX_remove
  by_cases c : dl_Ch N lk v1
  · obtain ⟨t, h0, ht, rfl, hk⟩ := c
    have hv : vp_in (nI t) 16 := vp_in_nI (by omega) (by omega)
    have yk : yl (t * 5) ≠ 0 := by rw [(HL t ht).1]; exact hk
    refine xc_t hN h0 ht hk ?_
    refine br_f dl_10 ?_
    refine xh_a hN ?_ ?_
    · intro ⟨i, i0, hi, ik, ip⟩
      refine br_f dl_10 ?_
      refine yre_t hN h4 h0 ht yk ?_ ?_
      · intro _ _
        exact ⟨rfl, dl_mk R⟩
      · intro hz
        obtain ⟨j, hj, e, k2⟩ := HT.2.2.2.1 i i0 hi ik
        have e2 : j = t := (nI_eq (by omega) (by omega)).mp (e.symm.trans ip)
        rw [e2] at k2
        refine absurd ⟨?_, ?_⟩ (hz ((HL t ht).1.trans k2) i i0 hi)
        · rw [(HL i hi).1]; exact ik
        · rw [(HL i hi).2.1]; exact ip
    · intro hn
      refine br_t rfl ⟨hv, nm_r (dl_u rfl (by omega) rfl) ⟨hv, nm_r (dl_u rfl (by omega) rfl) ⟨hv, nm_r (dl_u rfl (by omega) rfl) ⟨hv, nm_r (dl_u rfl (by omega) rfl) ⟨hv, nm_r (dl_u rfl (by omega) rfl) ?_⟩⟩⟩⟩⟩
      refine yre_t hN h4 h0 ht yk ?_ ?_
      · intro _ ⟨i, i0, hi, ik, ip⟩
        refine absurd ⟨?_, ?_⟩ (hn i i0 hi)
        · rw [← (HL i hi).1]; exact ik
        · rw [← (HL i hi).2.1]; exact ip
      · intro _
        exact ⟨rfl, dl_mk ⟨h4, hN, hD, hT, dl_L4 (dl_L3 (dl_L2 (dl_L1 (dl_L0 HL)))), dl_Tremove HT h0 hN ht hn, HE, HR⟩⟩
  · refine xc_f hN c ?_
    exact br_t rfl (yre_f hN (dl_ChY HL c) ⟨rfl, dl_mk R⟩)
/-! rename -/
section
variable {N D T : Nat} {ck sa : Int32} {yl yr ye dl ds db dd : Nat → Int32} {post : Int32 → SY → Prop} {p x2 x3 : Int32} {s t : Nat}
theorem yna_f (hN : N ≤ 16) (h : ¬ dl_Ch N (fun j => yl (j * 5)) p) (hp : post (-6) (nI N, nI D, ck, sa, nI T, yl, yr, ye, dl, ds, db, dd)) : wpY_rename post (nI N, nI D, ck, sa, nI T, yl, yr, ye, dl, ds, db, dd) p x2 x3 := yp_f hN h hp
theorem yna_d (hN : N ≤ 16) (h0 : 0 < t) (ht : t < N) (hk : yl (t * 5) ≠ 0) (h : ¬ ∃ j, j < N ∧ x2 = nI j ∧ yl (j * 5) = 2) (hp : post (-2) (nI N, nI D, ck, sa, nI T, yl, yr, ye, dl, ds, db, dd)) : wpY_rename post (nI N, nI D, ck, sa, nI T, yl, yr, ye, dl, ds, db, dd) (nI t) x2 x3 :=
  yp_t hN h0 ht hk (yd_f hN h (br_t rfl hp))
theorem yna_n (hN : N ≤ 16) (h0 : 0 < t) (ht : t < N) (hk : yl (t * 5) ≠ 0) (hs : s < N) (hd : yl (s * 5) = 2) (h : ¬ (¬ x3 < 1 ∧ ¬ 255 < x3)) (hp : post (-3) (nI N, nI D, ck, sa, nI T, yl, yr, ye, dl, ds, db, dd)) : wpY_rename post (nI N, nI D, ck, sa, nI T, yl, yr, ye, dl, ds, db, dd) (nI t) (nI s) x3 := by
  by_cases a : x3 < 1
  · exact yp_t hN h0 ht hk (yd_t hN hs hd (br_f dl_10 (br_t a hp)))
  · by_cases b : 255 < x3
    · exact yp_t hN h0 ht hk (yd_t hN hs hd (br_f dl_10 (br_f a (br_f (Int32.not_le.mpr b) hp))))
    · exact absurd ⟨a, b⟩ h
theorem yna_t (hN : N ≤ 16) (h0 : 0 < t) (ht : t < N) (hk : yl (t * 5) ≠ 0) (hs : s < N) (hd : yl (s * 5) = 2) (a : ¬ x3 < 1) (b : ¬ 255 < x3) (hw : ∃ n, wY_rename_59 post (nI t) (nI s) x3 (nI N) (nI D) ck sa (nI T) yl yr ye dl ds db dd n (nI s) 0) : wpY_rename post (nI N, nI D, ck, sa, nI T, yl, yr, ye, dl, ds, db, dd) (nI t) (nI s) x3 :=
  yp_t hN h0 ht hk (yd_t hN hs hd (br_f dl_10 (br_f a (br_t (Int32.not_lt.mp b) hw))))
theorem yna_w (hN : N ≤ 16) (h4 : 4 ≤ N) (ht : t < N) (hp4 : (∃ i, 0 < i ∧ i < N ∧ dl_Y yl x2 x3 (nI t) i) → post (-4) (nI N, nI D, ck, sa, nI T, yl, yr, ye, dl, ds, db, dd)) (hp0 : (∀ i, 0 < i → i < N → ¬ dl_Y yl x2 x3 (nI t) i) → post 0 (nI N, nI D, ck, sa, nI T, upd (upd yl (t * 5 + 1) x2) (t * 5 + 2) x3, yr, ye, dl, ds, db, dd)) : wY_rename_104 post (nI t) x2 x3 (nI N) (nI D) ck sa (nI T) yl yr ye dl ds db dd := by
  unfold wY_rename_104
  refine yf_a hN h4 ?_
  intro r hr
  rcases hr with ⟨rfl, hn⟩ | ⟨i, i0, hi, rfl, hm, hl⟩
  · exact br_t dl_m0 ⟨dl_v (dl_e5p t 1) (by omega) (by omega), nm_r (dl_u (dl_e5p t 1) (by omega) rfl) ⟨dl_v (dl_e5p t 2) (by omega) (by omega), nm_r (dl_u (dl_e5p t 2) (by omega) rfl) (hp0 hn)⟩⟩
  · exact br_f (nI_pos (by omega)) (hp4 ⟨i, i0, hi, hm⟩)
end
theorem dl_MYt {N j t : Nat} {dir nm : Int32} {lk lp ln lc ls yl : Nat → Int32} (HL : dl_L N lk lp ln lc ls yl) (hN : N ≤ 16) (hj : j < N) (ht : t < N) : (j ≠ t ∧ lk j ≠ 0 ∧ lp j = dir ∧ ln j = nm) ↔ dl_Y yl dir nm (nI t) j := by
  obtain ⟨a0, a1, a2, a3, a4⟩ := HL j hj
  unfold dl_Y
  rw [a0, a1, a2]
  exact ⟨fun h => ⟨fun e => h.1 ((nI_eq (by omega) (by omega)).mp e), h.2⟩, fun h => ⟨fun e => h.1 (congrArg nI e), h.2⟩⟩
theorem i_vc_rename {k : Nat} {u : SX} {v : SY} (I : i_Rel k u v) (hk : k + 4 ≤ 2050) (v1 : Int32) (v2 : Int32) (v3 : Int32) : wpX_rename (fun r u' => wpY_rename (fun r' v' => r' = r ∧ i_Rel (k + 4) u' v') v v1 v2 v3) u v1 v2 v3 := by
  obtain ⟨N, D, T, ck, sa, lk, lp, ln, lc, ls, dl, ds, db, dc, dd, ek, ep, en, ec, es, eg, rk, rp, rn, rc, rs, yl, yr, ye, rfl, rfl, R⟩ := I
  obtain ⟨h4, hN, hD, hT, HL, HT, HE, HR⟩ := id R
  unfold wpX_rename
  by_cases c : dl_Ch N lk v1
  · obtain ⟨t, h0, ht, rfl, hk⟩ := c
    have hv : vp_in (nI t) 16 := vp_in_nI (by omega) (by omega)
    have yk : yl (t * 5) ≠ 0 := by rw [(HL t ht).1]; exact hk
    refine xc_t hN h0 ht hk ?_
    refine br_f dl_10 ?_
    by_cases c2 : dl_Dr N lk v2
    · obtain ⟨s, hs, rfl, hd⟩ := c2
      have yd : yl (s * 5) = 2 := (HL s hs).1.trans hd
      refine xd_t hN hs hd ?_
      refine br_f dl_10 ?_
      by_cases n : ¬ v3 < 1 ∧ ¬ 255 < v3
      · refine xn_t n.1 n.2 ?_
        refine br_f dl_10 ?_
        have hl : ∀ i, i < N → (lp i).toNatClampNeg < N ∧ lp i = nI (lp i).toNatClampNeg := by
          intro i hi
          obtain ⟨j, hj, e⟩ := HT.2.2.1 i hi
          rw [e, nI_clamp (by omega)]
          exact ⟨hj, rfl⟩
        have f0 : (lp 0).toNatClampNeg = 0 := by
          rw [HT.2.1]
          decide +kernel
        refine xb_a (f := fun i => (lp i).toNatClampNeg) hN (fun i hi => (hl i hi).1) (fun i hi => (hl i hi).2) hs ht ?_ ?_
        · intro ⟨m, hm, e⟩
          refine br_f dl_10 ?_
          refine yna_t hN h0 ht yk hs yd n.1 n.2 ?_
          refine yn_a (f := fun i => (lp i).toNatClampNeg) hN (fun i hi => (hl i hi).1) f0 (fun i hi => (HL i hi).2.1.trans (hl i hi).2) hs ht h0 ?_ ?_
          · intro _
            exact ⟨rfl, dl_mk R⟩
          · intro hn
            exact absurd e (hn m (by omega))
        · intro hn
          have hn2 : ∀ m, m ≤ N → dl_it (fun i => (lp i).toNatClampNeg) s m ≠ t := by
            intro m hm
            by_cases z : m = N
            · rw [z]; exact dl_cyc (fun i hi => (hl i hi).1) hs ht hn
            · exact hn m (by omega)
          refine br_t rfl ?_
          refine xf_a hN ?_
          intro r hr
          have wr : (∀ j, 0 < j → j < N → (lk j ≠ 0 ∧ lp j = nI s ∧ ln j = v3) → j = t) → wX_rename_67 (fun r u' => wpY_rename (fun r' v' => r' = r ∧ i_Rel (k + 4) u' v') (nI N, nI D, ck, sa, nI T, yl, yr, ye, dl, ds, db, dd) (nI t) (nI s) v3) (nI t) (nI s) v3 (nI N) (nI D) ck (nI T) sa lk lp ln lc ls dl ds db dc dd ek ep en ec es eg rk rp rn rc rs := by
            intro hu
            refine ⟨hv, nm_r (dl_u rfl (by omega) rfl) ⟨hv, nm_r (dl_u rfl (by omega) rfl) ?_⟩⟩
            refine yna_t hN h0 ht yk hs yd n.1 n.2 ?_
            refine yn_a (f := fun i => (lp i).toNatClampNeg) hN (fun i hi => (hl i hi).1) f0 (fun i hi => (HL i hi).2.1.trans (hl i hi).2) hs ht h0 ?_ ?_
            · intro ⟨m, hm, e⟩
              exact absurd e (hn2 m hm)
            · intro _
              refine yna_w hN h4 ht ?_ ?_
              · intro ⟨i, i0, hi, hm⟩
                have hm2 := (dl_MYt HL hN hi ht).mpr hm
                exact absurd (hu i i0 hi hm2.2) hm2.1
              · intro _
                exact ⟨rfl, dl_mk ⟨h4, hN, hD, hT, dl_L2 (dl_L1 HL), dl_Trename HT h0 ht hs hd hu, HE, HR⟩⟩
          rcases hr with ⟨rfl, hf⟩ | ⟨j, j0, hj, rfl, hm, hlow⟩
          · exact br_t rfl (wr fun j j0 hj hm => absurd hm (hf j j0 hj))
          · by_cases jt : j = t
            · subst jt
              exact br_f (dl_m1 (by omega)) (br_t rfl (wr fun i i0 hi hm2 => HT.2.2.2.2 i j i0 hi j0 hj hm2.1 hm.1 (hm2.2.1.trans hm.2.1.symm) (hm2.2.2.trans hm.2.2.symm)))
            · refine br_f (dl_m1 (by omega)) (br_f (fun z => jt ((nI_eq (by omega) (by omega)).mp z)) ?_)
              refine yna_t hN h0 ht yk hs yd n.1 n.2 ?_
              refine yn_a (f := fun i => (lp i).toNatClampNeg) hN (fun i hi => (hl i hi).1) f0 (fun i hi => (HL i hi).2.1.trans (hl i hi).2) hs ht h0 ?_ ?_
              · intro ⟨m, hm, e⟩
                exact absurd e (hn2 m hm)
              · intro _
                refine yna_w hN h4 ht ?_ ?_
                · intro _
                  exact ⟨rfl, dl_mk R⟩
                · intro hno
                  exact absurd ((dl_MYt HL hN hj ht).mp ⟨jt, hm⟩) (hno j j0 hj)
      · refine xn_f n ?_
        exact br_t rfl (yna_n hN h0 ht yk hs yd n ⟨rfl, dl_mk R⟩)
    · refine xd_f hN c2 ?_
      exact br_t rfl (yna_d hN h0 ht yk (dl_DrY HL c2) ⟨rfl, dl_mk R⟩)
  · refine xc_f hN c ?_
    exact br_t rfl (yna_f hN (dl_ChY HL c) ⟨rfl, dl_mk R⟩)
