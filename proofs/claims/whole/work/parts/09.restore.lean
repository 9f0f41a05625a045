/-! restoreReset -/
section
variable {N D T : Nat} {ck sa : Int32} {lk lp ln lc ls dl ds db dc dd ek ep en ec es eg rk rp rn rc rs : Nat → Int32} {post : SX → Prop}
theorem xs_l (hN : N ≤ 16) (hp : ∀ rk' rp' rn' rc' rs' : Nat → Int32, (∀ m, m < N → rk' m = 0 ∧ rp' m = 0 ∧ rn' m = 0 ∧ rc' m = 0 ∧ rs' m = 0) → post (nI N, nI D, ck, nI T, 0, lk, lp, ln, lc, ls, dl, ds, db, dc, dd, ek, ep, en, ec, es, eg, upd rk' 0 2, rp', rn', rc', rs')) : ∀ (n i : Nat) (rk' rp' rn' rc' rs' : Nat → Int32), i + n = N → (∀ m, m < i → rk' m = 0 ∧ rp' m = 0 ∧ rn' m = 0 ∧ rc' m = 0 ∧ rs' m = 0) → wX_restoreReset_2 post (nI N) (nI D) ck (nI T) sa (n + 1) (nI i) lk lp ln lc ls dl ds db dc dd ek ep en ec es eg rk' rp' rn' rc' rs' := by
  intro n
  induction n with
  | zero =>
    intro i rk' rp' rn' rc' rs' hi h
    exact br_t (nI_le (by omega) (by omega)) (nm_e (hp _ _ _ _ _ fun m hm => h m (by omega)))
  | succ n ih =>
    intro i rk' rp' rn' rc' rs' hi h
    have hv : vp_in (nI i) 16 := vp_in_nI (by omega) (by omega)
    refine br_f (nI_ge (by omega) (by omega)) ⟨hv, nm_r (dl_u rfl (by omega) rfl) ⟨hv, nm_r (dl_u rfl (by omega) rfl) ⟨hv, nm_r (dl_u rfl (by omega) rfl) ⟨hv, nm_r (dl_u rfl (by omega) rfl) ⟨hv, nm_r (dl_u rfl (by omega) rfl) (nm_r (nI_1 i) (ih (i + 1) _ _ _ _ _ (by omega) ?_))⟩⟩⟩⟩⟩
    intro m hm
    by_cases z : m = i
    · subst z
      exact ⟨pk_us, pk_us, pk_us, pk_us, pk_us⟩
    · rw [pk_un z, pk_un z, pk_un z, pk_un z, pk_un z]
      exact h m (by omega)
theorem xs_a (hN : N ≤ 16) (hp : ∀ rk' rp' rn' rc' rs' : Nat → Int32, (∀ m, m < N → rk' m = 0 ∧ rp' m = 0 ∧ rn' m = 0 ∧ rc' m = 0 ∧ rs' m = 0) → post (nI N, nI D, ck, nI T, 0, lk, lp, ln, lc, ls, dl, ds, db, dc, dd, ek, ep, en, ec, es, eg, upd rk' 0 2, rp', rn', rc', rs')) : wpX_restoreReset post (nI N, nI D, ck, nI T, sa, lk, lp, ln, lc, ls, dl, ds, db, dc, dd, ek, ep, en, ec, es, eg, rk, rp, rn, rc, rs) :=
  ⟨N + 1, xs_l hN hp N 0 rk rp rn rc rs (by omega) (fun m hm => absurd hm (by omega))⟩
end
section
variable {N D T : Nat} {ck sa : Int32} {yl yr ye dl ds db dd : Nat → Int32} {post : SY → Prop}
theorem yt_l (hp : ∀ yr' : Nat → Int32, (∀ m, m < 80 → yr' m = 0) → post (nI N, nI D, ck, 0, nI T, yl, upd yr' 0 2, ye, dl, ds, db, dd)) : ∀ (n i : Nat) (yr' : Nat → Int32), i + n = 80 → (∀ m, m < i → yr' m = 0) → wY_restoreReset_2 post (nI N) (nI D) ck sa (nI T) (n + 1) (nI i) yl yr' ye dl ds db dd := by
  intro n
  induction n with
  | zero =>
    intro i yr' hi h
    exact br_t (nI_le (a := 80) (by omega) (by omega)) (nm_e (hp _ fun m hm => h m (by omega)))
  | succ n ih =>
    intro i yr' hi h
    refine br_f (nI_ge (b := 80) (by omega) (by decide)) ⟨vp_in_nI (by omega) (by omega), nm_r (dl_u rfl (by omega) rfl) (nm_r (nI_1 i) (ih (i + 1) _ (by omega) ?_))⟩
    intro m hm
    by_cases z : m = i
    · subst z
      exact pk_us
    · rw [pk_un z]
      exact h m (by omega)
theorem yt_a (hp : ∀ yr' : Nat → Int32, (∀ m, m < 80 → yr' m = 0) → post (nI N, nI D, ck, 0, nI T, yl, upd yr' 0 2, ye, dl, ds, db, dd)) : wpY_restoreReset post (nI N, nI D, ck, sa, nI T, yl, yr, ye, dl, ds, db, dd) :=
  ⟨81, yt_l hp 80 0 yr (by omega) (fun m hm => absurd hm (by omega))⟩
end
theorem i_vc_restoreReset {k : Nat} {u : SX} {v : SY} (I : i_Rel k u v) (hk : k + 4 ≤ 2050) : wpX_restoreReset (fun u' => wpY_restoreReset (fun v' => i_Rel (k + 4) u' v') v) u := by
  obtain ⟨N, D, T, ck, sa, lk, lp, ln, lc, ls, dl, ds, db, dc, dd, ek, ep, en, ec, es, eg, rk, rp, rn, rc, rs, yl, yr, ye, rfl, rfl, R⟩ := I
  obtain ⟨h4, hN, hD, hT, HL, HT, HE, HR⟩ := id R
  refine xs_a hN ?_
  intro rk' rp' rn' rc' rs' hx
  refine yt_a ?_
  intro yr' hy
  have h0 : dl_L N rk' rp' rn' rc' rs' yr' := by
    intro i hi
    obtain ⟨a0, a1, a2, a3, a4⟩ := hx i hi
    rw [a0, a1, a2, a3, a4]
    exact ⟨hy _ (by omega), hy _ (by omega), hy _ (by omega), hy _ (by omega), hy _ (by omega)⟩
  exact dl_mk ⟨h4, hN, hD, hT, HL, HT, HE, dl_L0 (j := 0) h0⟩
/-! restoreApply: the component -/
def dl_A1 (q : Nat) (ek ep en ec es eg rc rs rk' rp' rn' rc' rs' : Nat → Int32) (m : Nat) : Prop := rk' m = ek (q + m) ∧ rp' m = ep (q + m) ∧ rn' m = en (q + m) ∧ ((eg (q + m) = 1 ∨ ek (q + m) = 0) → rc' m = ec (q + m) ∧ rs' m = es (q + m)) ∧ (¬ (eg (q + m) = 1 ∨ ek (q + m) = 0) → rc' m = rc m ∧ rs' m = rs m)
section
variable {N D T : Nat} {ck sa : Int32} {lk lp ln lc ls dl ds db dc dd ek ep en ec es eg rk rp rn rc rs : Nat → Int32} {d i : Nat}
theorem xo_a {post : SX → Prop} (hd : d < 8) (hi : i < 16) (hp1 : (eg (d * 16 + i) = 1 ∨ ek (d * 16 + i) = 0) → post (nI N, nI D, ck, nI T, sa, lk, lp, ln, lc, ls, dl, ds, db, dc, dd, ek, ep, en, ec, es, eg, upd rk i (ek (d * 16 + i)), upd rp i (ep (d * 16 + i)), upd rn i (en (d * 16 + i)), upd rc i (ec (d * 16 + i)), upd rs i (es (d * 16 + i)))) (hp0 : ¬ (eg (d * 16 + i) = 1 ∨ ek (d * 16 + i) = 0) → post (nI N, nI D, ck, nI T, sa, lk, lp, ln, lc, ls, dl, ds, db, dc, dd, ek, ep, en, ec, es, eg, upd rk i (ek (d * 16 + i)), upd rp i (ep (d * 16 + i)), upd rn i (en (d * 16 + i)), rc, rs)) : wpX_restoreInode post (nI N, nI D, ck, nI T, sa, lk, lp, ln, lc, ls, dl, ds, db, dc, dd, ek, ep, en, ec, es, eg, rk, rp, rn, rc, rs) (nI d) (nI i) := by
  have hv : vp_in (nI i) 16 := vp_in_nI (by omega) (by omega)
  have hw : vp_in (nI (d * 16 + i)) 128 := vp_in_nI (by omega) (by omega)
  have fin : post (nI N, nI D, ck, nI T, sa, lk, lp, ln, lc, ls, dl, ds, db, dc, dd, ek, ep, en, ec, es, eg, upd rk i (ek (d * 16 + i)), upd rp i (ep (d * 16 + i)), upd rn i (en (d * 16 + i)), upd rc i (ec (d * 16 + i)), upd rs i (es (d * 16 + i))) → wX_restoreInode_61 post (nI i) (nI (d * 16 + i)) (nI N) (nI D) ck (nI T) sa lk lp ln lc ls dl ds db dc dd ek ep en ec es eg (upd rk i (ek (d * 16 + i))) (upd rp i (ep (d * 16 + i))) (upd rn i (en (d * 16 + i))) rc rs := by
    intro h
    exact ⟨hw, hv, nm_r (dl_u rfl (by omega) (dl_c ec rfl (by omega))) ⟨hw, hv, nm_r (dl_u rfl (by omega) (dl_c es rfl (by omega))) h⟩⟩
  unfold wpX_restoreInode
  refine xx_a ?_
  refine ⟨hw, hv, nm_r (dl_u rfl (by omega) (dl_c ek rfl (by omega))) ⟨hw, hv, nm_r (dl_u rfl (by omega) (dl_c ep rfl (by omega))) ⟨hw, hv, nm_r (dl_u rfl (by omega) (dl_c en rfl (by omega))) ⟨hw, ?_⟩⟩⟩⟩
  by_cases g : eg (d * 16 + i) = 1
  · exact br_t ((dl_c eg rfl (by omega)).trans g) (fin (hp1 (Or.inl g)))
  · refine br_f (fun z => g ((dl_c eg rfl (by omega)).symm.trans z)) ⟨hw, ?_⟩
    by_cases k0 : ek (d * 16 + i) = 0
    · exact br_t ((dl_c ek rfl (by omega)).trans k0) (fin (hp1 (Or.inr k0)))
    · exact br_f (fun z => k0 ((dl_c ek rfl (by omega)).symm.trans z)) (hp0 fun w => w.elim g k0)
theorem xa_l {post : Int32 → SX → Prop} (hN : N ≤ 16) (hd : d < 8) (hp : ∀ rk' rp' rn' rc' rs' : Nat → Int32, (∀ m, m < N → dl_A1 (d * 16) ek ep en ec es eg rc rs rk' rp' rn' rc' rs' m) → post 0 (nI N, nI D, ck, nI T, ds d, lk, lp, ln, lc, ls, dl, ds, db, dc, dd, ek, ep, en, ec, es, eg, rk', rp', rn', rc', rs')) : ∀ (n i : Nat) (rk' rp' rn' rc' rs' : Nat → Int32), i + n = N → (∀ m, m < i → dl_A1 (d * 16) ek ep en ec es eg rc rs rk' rp' rn' rc' rs' m) → (∀ m, i ≤ m → rc' m = rc m ∧ rs' m = rs m) → wX_restoreApply_29 post (nI d) (n + 1) (nI i) (nI N) (nI D) ck (nI T) sa lk lp ln lc ls dl ds db dc dd ek ep en ec es eg rk' rp' rn' rc' rs' := by
  intro n
  induction n with
  | zero =>
    intro i rk' rp' rn' rc' rs' hi h1 h2
    exact br_t (nI_le (by omega) (by omega)) ⟨vp_in_nI (by omega) (by omega), nm_r (dl_c ds rfl (by omega)) (hp _ _ _ _ _ fun m hm => h1 m (by omega))⟩
  | succ n ih =>
    intro i rk' rp' rn' rc' rs' hi h1 h2
    refine br_f (nI_ge (by omega) (by omega)) (xo_a hd (by omega) ?_ ?_)
    · intro c
      refine nm_r (nI_1 i) (ih (i + 1) _ _ _ _ _ (by omega) ?_ ?_)
      · intro m hm
        by_cases z : m = i
        · subst z
          exact ⟨pk_us, pk_us, pk_us, fun _ => ⟨pk_us, pk_us⟩, fun w => absurd c w⟩
        · unfold dl_A1
          rw [pk_un z, pk_un z, pk_un z, pk_un z, pk_un z]
          exact h1 m (by omega)
      · intro m hm
        rw [pk_un (by omega), pk_un (by omega)]
        exact h2 m (by omega)
    · intro c
      refine nm_r (nI_1 i) (ih (i + 1) _ _ _ _ _ (by omega) ?_ ?_)
      · intro m hm
        by_cases z : m = i
        · subst z
          exact ⟨pk_us, pk_us, pk_us, fun w => absurd w c, fun _ => h2 m (Nat.le_refl m)⟩
        · unfold dl_A1
          rw [pk_un z, pk_un z, pk_un z]
          exact h1 m (by omega)
      · intro m hm
        exact h2 m (by omega)
theorem xa_a {post : Int32 → SX → Prop} (hN : N ≤ 16) (hd : d < 8) (hp : ∀ rk' rp' rn' rc' rs' : Nat → Int32, (∀ m, m < N → dl_A1 (d * 16) ek ep en ec es eg rc rs rk' rp' rn' rc' rs' m) → post 0 (nI N, nI D, ck, nI T, ds d, lk, lp, ln, lc, ls, dl, ds, db, dc, dd, ek, ep, en, ec, es, eg, rk', rp', rn', rc', rs')) : ∃ n, wX_restoreApply_29 post (nI d) n 0 (nI N) (nI D) ck (nI T) sa lk lp ln lc ls dl ds db dc dd ek ep en ec es eg rk rp rn rc rs :=
  ⟨N + 1, xa_l hN hd hp N 0 rk rp rn rc rs (by omega) (fun m hm => absurd hm (by omega)) (fun m _ => ⟨rfl, rfl⟩)⟩
end
/-! restoreApply: the reference -/
def dl_B1 (q : Nat) (ye yr yr' : Nat → Int32) (m : Nat) : Prop := yr' (m * 5) = ye ((q + m) * 6) ∧ yr' (m * 5 + 1) = ye ((q + m) * 6 + 1) ∧ yr' (m * 5 + 2) = ye ((q + m) * 6 + 2) ∧ (ye ((q + m) * 6 + 5) = 1 → yr' (m * 5 + 3) = ye ((q + m) * 6 + 3) ∧ yr' (m * 5 + 4) = ye ((q + m) * 6 + 4)) ∧ (¬ ye ((q + m) * 6 + 5) = 1 → ye ((q + m) * 6) = 0 → yr' (m * 5 + 3) = 0 ∧ yr' (m * 5 + 4) = 0) ∧ (¬ ye ((q + m) * 6 + 5) = 1 → ¬ ye ((q + m) * 6) = 0 → yr' (m * 5 + 3) = yr (m * 5 + 3) ∧ yr' (m * 5 + 4) = yr (m * 5 + 4))
theorem dl_Bk {q i m : Nat} {ye yr yr' yr2 : Nat → Int32} (h : dl_B1 q ye yr yr' m) (hm : m < i) (e : ∀ p, p < i * 5 → yr2 p = yr' p) : dl_B1 q ye yr yr2 m := by
  unfold dl_B1
  rw [e (m * 5) (by omega), e (m * 5 + 1) (by omega), e (m * 5 + 2) (by omega), e (m * 5 + 3) (by omega), e (m * 5 + 4) (by omega)]
  exact h
section
variable {N D T : Nat} {ck sa : Int32} {yl yr ye dl ds db dd : Nat → Int32} {d : Nat} {post : Int32 → SY → Prop}
theorem ya_l (hN : N ≤ 16) (hd : d < 8) (hp : ∀ yr' : Nat → Int32, (∀ m, m < N → dl_B1 (d * 16) ye yr yr' m) → post 0 (nI N, nI D, ck, ds d, nI T, yl, yr', ye, dl, ds, db, dd)) : ∀ (n i : Nat) (yr' : Nat → Int32), i + n = N → (∀ m, m < i → dl_B1 (d * 16) ye yr yr' m) → (∀ p, i * 5 ≤ p → yr' p = yr p) → wY_restoreApply_33 post (nI d) (nI N) (nI D) ck sa (nI T) (n + 1) (nI i) yl yr' ye dl ds db dd := by
  intro n
  induction n with
  | zero =>
    intro i yr' hi h1 h2
    exact br_t (nI_le (by omega) (by omega)) ⟨vp_in_nI (by omega) (by omega), nm_r (dl_c ds rfl (by omega)) (hp _ fun m hm => h1 m (by omega))⟩
  | succ n ih =>
    intro i yr' hi h1 h2
    have v0 : vp_in (nI i * 5) 80 := dl_v (dl_e5 i) (by omega) (by omega)
    have v1 : vp_in (nI i * 5 + 1) 80 := dl_v (dl_e5p i 1) (by omega) (by omega)
    have v2 : vp_in (nI i * 5 + 2) 80 := dl_v (dl_e5p i 2) (by omega) (by omega)
    have v3 : vp_in (nI i * 5 + 3) 80 := dl_v (dl_e5p i 3) (by omega) (by omega)
    have v4 : vp_in (nI i * 5 + 4) 80 := dl_v (dl_e5p i 4) (by omega) (by omega)
    have w0 : vp_in (nI ((d * 16 + i) * 6)) 768 := vp_in_nI (by omega) (by omega)
    have w1 : vp_in (nI ((d * 16 + i) * 6) + 1) 768 := dl_v (nI_add _ 1) (by omega) (by omega)
    have w2 : vp_in (nI ((d * 16 + i) * 6) + 2) 768 := dl_v (nI_add _ 2) (by omega) (by omega)
    have w3 : vp_in (nI ((d * 16 + i) * 6) + 3) 768 := dl_v (nI_add _ 3) (by omega) (by omega)
    have w4 : vp_in (nI ((d * 16 + i) * 6) + 4) 768 := dl_v (nI_add _ 4) (by omega) (by omega)
    have w5 : vp_in (nI ((d * 16 + i) * 6) + 5) 768 := dl_v (nI_add _ 5) (by omega) (by omega)
    have k5 : ye (nI ((d * 16 + i) * 6) + 5).toNatClampNeg = ye ((d * 16 + i) * 6 + 5) := dl_c ye (nI_add _ 5) (by omega)
    refine br_f (nI_ge (by omega) (by omega)) (nm_r (dl_e6 d i) ⟨w0, v0, nm_r (dl_u (dl_e5 i) (by omega) (dl_c ye rfl (by omega))) ⟨w1, v1, nm_r (dl_u (dl_e5p i 1) (by omega) (dl_c ye (nI_add _ 1) (by omega))) ⟨w2, v2, nm_r (dl_u (dl_e5p i 2) (by omega) (dl_c ye (nI_add _ 2) (by omega))) ⟨w5, ?_⟩⟩⟩⟩)
    rw [k5]
    by_cases g : ye ((d * 16 + i) * 6 + 5) = 1
    · refine br_t g ⟨w3, v3, nm_r (dl_u (dl_e5p i 3) (by omega) (dl_c ye (nI_add _ 3) (by omega))) ⟨w4, v4, nm_r (dl_u (dl_e5p i 4) (by omega) (dl_c ye (nI_add _ 4) (by omega))) (nm_r (nI_1 i) (ih (i + 1) _ (by omega) ?_ ?_))⟩⟩
      · intro m hm
        by_cases z : m = i
        · subst z
          refine ⟨?_, ?_, ?_, fun _ => ⟨?_, pk_us⟩, fun w => absurd g w, fun w => absurd g w⟩
          · rw [pk_un (by omega), pk_un (by omega), pk_un (by omega), pk_un (by omega), pk_us]
          · rw [pk_un (by omega), pk_un (by omega), pk_un (by omega), pk_us]
          · rw [pk_un (by omega), pk_un (by omega), pk_us]
          · rw [pk_un (by omega), pk_us]
        · refine dl_Bk (i := i) (h1 m (by omega)) (by omega) ?_
          intro p hp
          rw [pk_un (by omega), pk_un (by omega), pk_un (by omega), pk_un (by omega), pk_un (by omega)]
      · intro p hp
        rw [pk_un (by omega), pk_un (by omega), pk_un (by omega), pk_un (by omega), pk_un (by omega)]
        exact h2 p (by omega)
    · refine br_f g ⟨w0, ?_⟩
      by_cases k0 : ye ((d * 16 + i) * 6) = 0
      · refine br_t ((dl_c ye rfl (by omega)).trans k0) ⟨v3, nm_r (dl_u (dl_e5p i 3) (by omega) rfl) ⟨v4, nm_r (dl_u (dl_e5p i 4) (by omega) rfl) (nm_r (nI_1 i) (ih (i + 1) _ (by omega) ?_ ?_))⟩⟩
        · intro m hm
          by_cases z : m = i
          · subst z
            refine ⟨?_, ?_, ?_, fun w => absurd w g, fun _ _ => ⟨?_, pk_us⟩, fun _ w => absurd k0 w⟩
            · rw [pk_un (by omega), pk_un (by omega), pk_un (by omega), pk_un (by omega), pk_us]
            · rw [pk_un (by omega), pk_un (by omega), pk_un (by omega), pk_us]
            · rw [pk_un (by omega), pk_un (by omega), pk_us]
            · rw [pk_un (by omega), pk_us]
          · refine dl_Bk (i := i) (h1 m (by omega)) (by omega) ?_
            intro p hp
            rw [pk_un (by omega), pk_un (by omega), pk_un (by omega), pk_un (by omega), pk_un (by omega)]
        · intro p hp
          rw [pk_un (by omega), pk_un (by omega), pk_un (by omega), pk_un (by omega), pk_un (by omega)]
          exact h2 p (by omega)
      · refine br_f (fun z => k0 ((dl_c ye rfl (by omega)).symm.trans z)) (nm_r (nI_1 i) (ih (i + 1) _ (by omega) ?_ ?_))
        · intro m hm
          by_cases z : m = i
          · subst z
            refine ⟨?_, ?_, pk_us, fun w => absurd w g, fun _ w => absurd w k0, fun _ _ => ⟨?_, ?_⟩⟩
            · rw [pk_un (by omega), pk_un (by omega), pk_us]
            · rw [pk_un (by omega), pk_us]
            · rw [pk_un (by omega), pk_un (by omega), pk_un (by omega)]; exact h2 _ (by omega)
            · rw [pk_un (by omega), pk_un (by omega), pk_un (by omega)]; exact h2 _ (by omega)
          · refine dl_Bk (i := i) (h1 m (by omega)) (by omega) ?_
            intro p hp
            rw [pk_un (by omega), pk_un (by omega), pk_un (by omega)]
        · intro p hp
          rw [pk_un (by omega), pk_un (by omega), pk_un (by omega)]
          exact h2 p (by omega)
theorem ya_a (hN : N ≤ 16) (hd : d < 8) (hp : ∀ yr' : Nat → Int32, (∀ m, m < N → dl_B1 (d * 16) ye yr yr' m) → post 0 (nI N, nI D, ck, ds d, nI T, yl, yr', ye, dl, ds, db, dd)) : ∃ n, wY_restoreApply_33 post (nI d) (nI N) (nI D) ck sa (nI T) n 0 yl yr ye dl ds db dd :=
  ⟨N + 1, ya_l hN hd hp N 0 yr (by omega) (fun m hm => absurd hm (by omega)) (fun p _ => rfl)⟩
theorem yg_d {p : Int32} (hT : T ≤ 8) (h : ¬ dl_In T p) (hp : post (-10) (nI N, nI D, ck, sa, nI T, yl, yr, ye, dl, ds, db, dd)) : wpY_restoreApply post (nI N, nI D, ck, sa, nI T, yl, yr, ye, dl, ds, db, dd) p := by
  rcases dl_In_c (by omega) h with a | ⟨a, b⟩
  · exact br_t a hp
  · exact br_f a (br_f (Int32.not_lt.mpr b) hp)
theorem yg_c (hT : T ≤ 8) (hd : d < T) (h : ¬ db d = sa) (hp : post (-11) (nI N, nI D, ck, sa, nI T, yl, yr, ye, dl, ds, db, dd)) : wpY_restoreApply post (nI N, nI D, ck, sa, nI T, yl, yr, ye, dl, ds, db, dd) (nI d) :=
  br_f (nI_pos (by omega)) (br_t (nI_lt hd (by omega)) ⟨vp_in_nI (by omega) (by omega), br_f (fun z => h ((dl_c db rfl (by omega)).symm.trans z)) hp⟩)
theorem yg_t (hT : T ≤ 8) (hd : d < T) (h : db d = sa) (hp : ∃ n, wY_restoreApply_33 post (nI d) (nI N) (nI D) ck sa (nI T) n 0 yl yr ye dl ds db dd) : wpY_restoreApply post (nI N, nI D, ck, sa, nI T, yl, yr, ye, dl, ds, db, dd) (nI d) :=
  br_f (nI_pos (by omega)) (br_t (nI_lt hd (by omega)) ⟨vp_in_nI (by omega) (by omega), br_t ((dl_c db rfl (by omega)).trans h) hp⟩)
end
theorem dl_AB {N q : Nat} {ek ep en ec es eg ye rk rp rn rc rs rk' rp' rn' rc' rs' yr yr' : Nat → Int32} (HR : dl_L N rk rp rn rc rs yr) (hE : ∀ i, i < N → dl_E1 (q + i) ek ep en ec es eg ye) (hA : ∀ m, m < N → dl_A1 q ek ep en ec es eg rc rs rk' rp' rn' rc' rs' m) (hB : ∀ m, m < N → dl_B1 q ye yr yr' m) : dl_L N rk' rp' rn' rc' rs' yr' := by
  intro i hi
  obtain ⟨e0, e1, e2, e3, e4, e5, e6⟩ := hE i hi
  obtain ⟨a0, a1, a2, a3, a4⟩ := hA i hi
  obtain ⟨b0, b1, b2, b3, b4, b5⟩ := hB i hi
  obtain ⟨c0, c1, c2, c3, c4⟩ := HR i hi
  refine ⟨by rw [b0, a0, e0], by rw [b1, a1, e1], by rw [b2, a2, e2], ?_⟩
  by_cases g : eg (q + i) = 1
  · obtain ⟨x3, x4⟩ := a3 (Or.inl g)
    obtain ⟨y3, y4⟩ := b3 (e5.trans g)
    exact ⟨by rw [y3, x3, e3], by rw [y4, x4, e4]⟩
  · have g2 : ¬ ye ((q + i) * 6 + 5) = 1 := fun z => g (e5.symm.trans z)
    by_cases k0 : ek (q + i) = 0
    · obtain ⟨x3, x4⟩ := a3 (Or.inr k0)
      obtain ⟨y3, y4⟩ := b4 g2 (e0.trans k0)
      obtain ⟨z3, z4⟩ := e6 g
      exact ⟨by rw [y3, x3, z3], by rw [y4, x4, z4]⟩
    · obtain ⟨x3, x4⟩ := a4 (fun w => w.elim g k0)
      obtain ⟨y3, y4⟩ := b5 g2 (fun z => k0 (e0.symm.trans z))
      exact ⟨by rw [y3, x3, c3], by rw [y4, x4, c4]⟩
theorem i_vc_restoreApply {k : Nat} {u : SX} {v : SY} (I : i_Rel k u v) (hk : k + 4 ≤ 2050) (v1 : Int32) : wpX_restoreApply (fun r u' => wpY_restoreApply (fun r' v' => r' = r ∧ i_Rel (k + 4) u' v') v v1) u v1 := by
  obtain ⟨N, D, T, ck, sa, lk, lp, ln, lc, ls, dl, ds, db, dc, dd, ek, ep, en, ec, es, eg, rk, rp, rn, rc, rs, yl, yr, ye, rfl, rfl, R⟩ := I
  obtain ⟨h4, hN, hD, hT, HL, HT, HE, HR⟩ := id R
  have hT8 : T ≤ 8 := by omega
  unfold wpX_restoreApply
  by_cases c : dl_In T v1
  · obtain ⟨d, hd, rfl⟩ := c
    have hv : vp_in (nI d) 8 := vp_in_nI (by omega) (by omega)
    refine xk_t hT8 hd ?_
    by_cases b : db d = sa
    · refine br_f dl_10 ⟨hv, br_t ((dl_c db rfl (by omega)).trans b) (xa_a hN (by omega) ?_)⟩
      intro rk' rp' rn' rc' rs' hA
      refine yg_t hT8 hd b (ya_a hN (by omega) ?_)
      intro yr' hB
      exact ⟨rfl, dl_mk ⟨h4, hN, hD, hT, HL, HT, HE, dl_AB HR (HE.1 d hd).2 hA hB⟩⟩
    · exact br_f dl_10 ⟨hv, br_f (fun z => b ((dl_c db rfl (by omega)).symm.trans z)) (yg_c hT8 hd b ⟨rfl, dl_mk R⟩)⟩
  · refine xk_f hT8 c ?_
    exact br_t rfl (yg_d hT8 c ⟨rfl, dl_mk R⟩)
/-! restoreMatches -/
def dl_5 (rk rp rn rc rs lk lp ln lc ls : Nat → Int32) (i : Nat) : Prop := rk i = lk i ∧ rp i = lp i ∧ rn i = ln i ∧ rc i = lc i ∧ rs i = ls i
section
variable {N D T : Nat} {ck sa : Int32} {lk lp ln lc ls dl ds db dc dd ek ep en ec es eg rk rp rn rc rs : Nat → Int32} {post : Int32 → Prop} {i : Nat}
theorem xp_t (hi : i < 16) (h : dl_5 rk rp rn rc rs lk lp ln lc ls i) (hp : post 1) : wpX_isRestoredAsLive post (nI N, nI D, ck, nI T, sa, lk, lp, ln, lc, ls, dl, ds, db, dc, dd, ek, ep, en, ec, es, eg, rk, rp, rn, rc, rs) (nI i) := by
  obtain ⟨a0, a1, a2, a3, a4⟩ := h
  have e : (nI i).toNatClampNeg = i := nI_clamp (by omega)
  have hv : vp_in (nI i) 16 := vp_in_nI (by omega) (by omega)
  unfold wpX_isRestoredAsLive
  rw [e]
  exact ⟨hv, hv, br_t a0 ⟨hv, hv, br_t a1 ⟨hv, hv, br_t a2 ⟨hv, hv, br_t a3 ⟨hv, hv, br_t a4 hp⟩⟩⟩⟩⟩
theorem xp_f (hi : i < 16) (h : ¬ dl_5 rk rp rn rc rs lk lp ln lc ls i) (hp : post 0) : wpX_isRestoredAsLive post (nI N, nI D, ck, nI T, sa, lk, lp, ln, lc, ls, dl, ds, db, dc, dd, ek, ep, en, ec, es, eg, rk, rp, rn, rc, rs) (nI i) := by
  have e : (nI i).toNatClampNeg = i := nI_clamp (by omega)
  have hv : vp_in (nI i) 16 := vp_in_nI (by omega) (by omega)
  unfold wpX_isRestoredAsLive
  rw [e]
  by_cases a0 : rk i = lk i
  · by_cases a1 : rp i = lp i
    · by_cases a2 : rn i = ln i
      · by_cases a3 : rc i = lc i
        · by_cases a4 : rs i = ls i
          · exact absurd ⟨a0, a1, a2, a3, a4⟩ h
          · exact ⟨hv, hv, br_t a0 ⟨hv, hv, br_t a1 ⟨hv, hv, br_t a2 ⟨hv, hv, br_t a3 ⟨hv, hv, br_f a4 hp⟩⟩⟩⟩⟩
        · exact ⟨hv, hv, br_t a0 ⟨hv, hv, br_t a1 ⟨hv, hv, br_t a2 ⟨hv, hv, br_f a3 hp⟩⟩⟩⟩
      · exact ⟨hv, hv, br_t a0 ⟨hv, hv, br_t a1 ⟨hv, hv, br_f a2 hp⟩⟩⟩
    · exact ⟨hv, hv, br_t a0 ⟨hv, hv, br_f a1 hp⟩⟩
  · exact ⟨hv, hv, br_f a0 hp⟩
theorem xu_l (hN : N ≤ 16) (hp1 : (∀ m, m < N → dl_5 rk rp rn rc rs lk lp ln lc ls m) → post 1) (hp0 : (∃ m, m < N ∧ ¬ dl_5 rk rp rn rc rs lk lp ln lc ls m) → post 0) : ∀ n i : Nat, i + n = N → (∀ m, m < i → dl_5 rk rp rn rc rs lk lp ln lc ls m) → wX_restoreMatches_2 post (nI N) (nI D) ck (nI T) sa lk lp ln lc ls dl ds db dc dd ek ep en ec es eg rk rp rn rc rs (n + 1) (nI i) := by
  intro n
  induction n with
  | zero =>
    intro i hi h
    exact br_t (nI_le (by omega) (by omega)) (hp1 fun m hm => h m (by omega))
  | succ n ih =>
    intro i hi h
    by_cases c : dl_5 rk rp rn rc rs lk lp ln lc ls i
    · refine br_f (nI_ge (by omega) (by omega)) (xp_t (by omega) c ?_)
      refine br_f dl_10 (nm_r (nI_1 i) (ih (i + 1) (by omega) ?_))
      intro m hm
      by_cases z : m = i
      · rw [z]; exact c
      · exact h m (by omega)
    · refine br_f (nI_ge (by omega) (by omega)) (xp_f (by omega) c ?_)
      exact br_t rfl (hp0 ⟨i, by omega, c⟩)
theorem xu_a (hN : N ≤ 16) (hp1 : (∀ m, m < N → dl_5 rk rp rn rc rs lk lp ln lc ls m) → post 1) (hp0 : (∃ m, m < N ∧ ¬ dl_5 rk rp rn rc rs lk lp ln lc ls m) → post 0) : wpX_restoreMatches post (nI N, nI D, ck, nI T, sa, lk, lp, ln, lc, ls, dl, ds, db, dc, dd, ek, ep, en, ec, es, eg, rk, rp, rn, rc, rs) :=
  ⟨N + 1, xu_l hN hp1 hp0 N 0 (by omega) (fun m hm => absurd hm (by omega))⟩
end
section
variable {N D T : Nat} {ck sa : Int32} {yl yr ye dl ds db dd : Nat → Int32} {post : Int32 → Prop}
theorem yx_l (hN : N ≤ 16) (hp1 : (∀ m, m < N * 5 → yr m = yl m) → post 1) (hp0 : (∃ m, m < N * 5 ∧ ¬ yr m = yl m) → post 0) : ∀ n i : Nat, i + n = N * 5 → (∀ m, m < i → yr m = yl m) → wY_restoreMatches_2 post (nI N) (nI D) ck sa (nI T) yl yr ye dl ds db dd (n + 1) (nI i) := by
  intro n
  induction n with
  | zero =>
    intro i hi h
    exact br_t (by rw [dl_e5]; exact nI_le (by omega) (by omega)) (hp1 fun m hm => h m (by omega))
  | succ n ih =>
    intro i hi h
    have hv : vp_in (nI i) 80 := vp_in_nI (by omega) (by omega)
    have hc : ¬ nI N * 5 ≤ nI i := by rw [dl_e5]; exact nI_ge (by omega) (by omega)
    by_cases c : yr i = yl i
    · refine br_f hc ⟨hv, hv, br_t ((dl_c yr rfl (by omega)).trans (c.trans (dl_c yl rfl (by omega)).symm)) (nm_r (nI_1 i) (ih (i + 1) (by omega) ?_))⟩
      intro m hm
      by_cases z : m = i
      · rw [z]; exact c
      · exact h m (by omega)
    · exact br_f hc ⟨hv, hv, br_f (fun z => c ((dl_c yr rfl (by omega)).symm.trans (z.trans (dl_c yl rfl (by omega))))) (hp0 ⟨i, by omega, c⟩)⟩
theorem yx_a (hN : N ≤ 16) (hp1 : (∀ m, m < N * 5 → yr m = yl m) → post 1) (hp0 : (∃ m, m < N * 5 ∧ ¬ yr m = yl m) → post 0) : wpY_restoreMatches post (nI N, nI D, ck, sa, nI T, yl, yr, ye, dl, ds, db, dd) :=
  ⟨N * 5 + 1, yx_l hN hp1 hp0 (N * 5) 0 (by omega) (fun m hm => absurd hm (by omega))⟩
end
theorem i_vc_restoreMatches {k : Nat} {u : SX} {v : SY} (I : i_Rel k u v) (hk : k + 4 ≤ 2050) : wpX_restoreMatches (fun r => wpY_restoreMatches (fun r' => r' = r ∧ i_Rel (k + 4) u v) v) u := by
  obtain ⟨N, D, T, ck, sa, lk, lp, ln, lc, ls, dl, ds, db, dc, dd, ek, ep, en, ec, es, eg, rk, rp, rn, rc, rs, yl, yr, ye, rfl, rfl, R⟩ := I
  obtain ⟨h4, hN, hD, hT, HL, HT, HE, HR⟩ := id R
  refine xu_a hN ?_ ?_
  · intro hx
    refine yx_a hN (fun _ => ⟨rfl, dl_mk R⟩) ?_
    intro ⟨m, hm, hne⟩
    refine absurd ?_ hne
    obtain ⟨i, w, hw, rfl⟩ : ∃ i w, w ≤ 4 ∧ m = i * 5 + w := ⟨m / 5, m % 5, by omega, by omega⟩
    have hi : i < N := by omega
    obtain ⟨a0, a1, a2, a3, a4⟩ := hx i hi
    obtain ⟨b0, b1, b2, b3, b4⟩ := HL i hi
    obtain ⟨c0, c1, c2, c3, c4⟩ := HR i hi
    have h : w = 0 ∨ w = 1 ∨ w = 2 ∨ w = 3 ∨ w = 4 := by omega
    rcases h with rfl | rfl | rfl | rfl | rfl
    · exact c0.trans (a0.trans b0.symm)
    · exact c1.trans (a1.trans b1.symm)
    · exact c2.trans (a2.trans b2.symm)
    · exact c3.trans (a3.trans b3.symm)
    · exact c4.trans (a4.trans b4.symm)
  · intro ⟨i, hi, hne⟩
    refine yx_a hN ?_ (fun _ => ⟨rfl, dl_mk R⟩)
    intro hy
    refine absurd ?_ hne
    obtain ⟨b0, b1, b2, b3, b4⟩ := HL i hi
    obtain ⟨c0, c1, c2, c3, c4⟩ := HR i hi
    exact ⟨c0.symm.trans ((hy _ (by omega)).trans b0), c1.symm.trans ((hy _ (by omega)).trans b1), c2.symm.trans ((hy _ (by omega)).trans b2), c3.symm.trans ((hy _ (by omega)).trans b3), c4.symm.trans ((hy _ (by omega)).trans b4)⟩
