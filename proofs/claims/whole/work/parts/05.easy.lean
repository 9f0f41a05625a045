/-! the constructors -/
def dl_K (lo hi k r : Int32) : Prop := (¬ lo ≤ k ∧ r = lo) ∨ (lo ≤ k ∧ k ≤ hi ∧ r = k) ∨ (lo ≤ k ∧ ¬ k ≤ hi ∧ r = hi)
theorem dl_clx (k : Int32) (a b : Nat) (hab : a ≤ b) (hb : b < 2050) : ∃ m, a ≤ m ∧ m ≤ b ∧ dl_K (nI a) (nI b) k (nI m) := by
  by_cases h : nI a ≤ k
  · by_cases h2 : k ≤ nI b
    · have h0 : ¬ k < 0 := Int32.not_lt.mpr (Int32.le_trans (nI_pos' (by omega)) h)
      obtain ⟨m, hm, rfl⟩ := nI_of h0
      exact ⟨m, (nI_leI (by omega) hm).mp h, (nI_leI hm (by omega)).mp h2, Or.inr (Or.inl ⟨h, h2, rfl⟩)⟩
    · exact ⟨b, hab, by omega, Or.inr (Or.inr ⟨h, h2, rfl⟩)⟩
  · exact ⟨a, by omega, hab, Or.inl ⟨h, rfl⟩⟩
theorem xz_a {post : Int32 → Prop} {k lo hi r : Int32} (h : dl_K lo hi k r) (hp : post r) : wpX_clamp post k lo hi := by
  rcases h with ⟨h, rfl⟩ | ⟨h, h2, rfl⟩ | ⟨h, h2, rfl⟩
  · exact br_f h hp
  · exact br_t h (br_t h2 hp)
  · exact br_t h (br_f h2 hp)
theorem yi_83 {post : SY → Prop} {k z r : Int32} (h : dl_K 2 8 k r) (hp : post (z, r, 0, 0, 0, upd (fun _ => 0) 0 2, upd (fun _ => 0) 0 2, fun _ => 0, fun _ => 0, fun _ => 0, fun _ => 0, fun _ => 0)) : wY_init_83 post k z 0 0 0 0 0 (fun _ => 0) (fun _ => 0) (fun _ => 0) (fun _ => 0) (fun _ => 0) (fun _ => 0) (fun _ => 0) := by
  rcases h with ⟨h, rfl⟩ | ⟨h, h2, rfl⟩ | ⟨h, h2, rfl⟩
  · exact br_f h (nm_e (nm_e hp))
  · exact br_t h (br_t h2 (nm_e (nm_e hp)))
  · exact br_t h (br_f h2 (nm_e (nm_e hp)))
theorem yi_a {post : SY → Prop} {k0 k1 z r : Int32} (h0 : dl_K 4 16 k0 z) (h1 : dl_K 2 8 k1 r) (hp : post (z, r, 0, 0, 0, upd (fun _ => 0) 0 2, upd (fun _ => 0) 0 2, fun _ => 0, fun _ => 0, fun _ => 0, fun _ => 0, fun _ => 0)) : wpY_init post k0 k1 := by
  rcases h0 with ⟨h, rfl⟩ | ⟨h, h2, rfl⟩ | ⟨h, h2, rfl⟩
  · exact br_f h (yi_83 h1 hp)
  · exact br_t h (br_t h2 (yi_83 h1 hp))
  · exact br_t h (br_f h2 (yi_83 h1 hp))
theorem dl_Lz (N : Nat) : dl_L N (fun _ => 0) (fun _ => 0) (fun _ => 0) (fun _ => 0) (fun _ => 0) (fun _ => 0) := fun _ _ => ⟨rfl, rfl, rfl, rfl, rfl⟩
theorem dl_Li (N : Nat) : dl_L N (upd (fun _ => 0) 0 2) (fun _ => 0) (fun _ => 0) (fun _ => 0) (fun _ => 0) (upd (fun _ => 0) 0 2) := dl_L0 (j := 0) (dl_Lz N)
theorem dl_Ti {N : Nat} (h4 : 4 ≤ N) : dl_T N (upd (fun _ => 0) 0 2) (fun _ => 0) (fun _ => 0) := by
  refine ⟨pk_us, rfl, fun i hi => ⟨0, by omega, rfl⟩, fun i hi0 hi hk => ?_, fun i j hi0 hi hj0 hj hki => ?_⟩
  · exact absurd (pk_un (by omega)) hk
  · exact absurd (pk_un (by omega)) hki
theorem i_vc0 (k0 : Int32) (k1 : Int32) : wpX_init (fun u => wpY_init (fun v => i_Rel 2 u v) k0 k1) k0 k1 := by
  obtain ⟨N, h4, hN, h0⟩ := dl_clx k0 4 16 (by omega) (by omega)
  obtain ⟨D, h2, hD, h1⟩ := dl_clx k1 2 8 (by omega) (by omega)
  unfold wpX_init
  refine xz_a (r := nI N) h0 ?_
  refine xz_a (r := nI D) h1 ?_
  refine nm_e (nm_e ?_)
  exact yi_a (z := nI N) (r := nI D) h0 h1 (dl_mk (T := 0) ⟨h4, hN, hD, by omega, dl_Li N, dl_Ti h4, ⟨fun d hd => absurd hd (by omega), fun p _ => ⟨rfl, rfl, rfl⟩⟩, dl_Li N⟩)
/-! calls that only ask -/
theorem i_vc_getClock {k : Nat} {u : SX} {v : SY} (I : i_Rel k u v) (hk : k + 4 ≤ 2050) : wpX_getClock (fun r => wpY_getClock (fun r' => r' = r ∧ i_Rel (k + 4) u v) v) u := by
  obtain ⟨N, D, T, ck, sa, lk, lp, ln, lc, ls, dl, ds, db, dc, dd, ek, ep, en, ec, es, eg, rk, rp, rn, rc, rs, yl, yr, ye, rfl, rfl, R⟩ := I
  obtain ⟨h4, hN, hD, hT, HL, HT, HE, HR⟩ := id R
  exact ⟨rfl, dl_mk R⟩
theorem i_vc_restoreStamp {k : Nat} {u : SX} {v : SY} (I : i_Rel k u v) (hk : k + 4 ≤ 2050) : wpX_restoreStamp (fun r => wpY_restoreStamp (fun r' => r' = r ∧ i_Rel (k + 4) u v) v) u := by
  obtain ⟨N, D, T, ck, sa, lk, lp, ln, lc, ls, dl, ds, db, dc, dd, ek, ep, en, ec, es, eg, rk, rp, rn, rc, rs, yl, yr, ye, rfl, rfl, R⟩ := I
  obtain ⟨h4, hN, hD, hT, HL, HT, HE, HR⟩ := id R
  exact ⟨rfl, dl_mk R⟩
theorem dl_wc (p : Int32) (b : Nat) (hb : b < 2050) : p < 0 ∨ (¬ p < 0 ∧ nI b < p) ∨ ∃ w, w ≤ b ∧ p = nI w := by
  by_cases h : p < 0
  · exact Or.inl h
  · obtain ⟨w, hw, rfl⟩ := nI_of h
    by_cases h2 : w ≤ b
    · exact Or.inr (Or.inr ⟨w, h2, rfl⟩)
    · exact Or.inr (Or.inl ⟨h, nI_lt (by omega) hw⟩)
theorem dl_L5 {N j w : Nat} {lk lp ln lc ls yl : Nat → Int32} (HL : dl_L N lk lp ln lc ls yl) (hj : j < N) (hw : w ≤ 4) : (w = 0 ∧ yl (j * 5 + w) = lk j) ∨ (w = 1 ∧ yl (j * 5 + w) = lp j) ∨ (w = 2 ∧ yl (j * 5 + w) = ln j) ∨ (w = 3 ∧ yl (j * 5 + w) = lc j) ∨ (w = 4 ∧ yl (j * 5 + w) = ls j) := by
  obtain ⟨a0, a1, a2, a3, a4⟩ := HL j hj
  have h : w = 0 ∨ w = 1 ∨ w = 2 ∨ w = 3 ∨ w = 4 := by omega
  rcases h with rfl | rfl | rfl | rfl | rfl
  · exact Or.inl ⟨rfl, a0⟩
  · exact Or.inr (Or.inl ⟨rfl, a1⟩)
  · exact Or.inr (Or.inr (Or.inl ⟨rfl, a2⟩))
  · exact Or.inr (Or.inr (Or.inr (Or.inl ⟨rfl, a3⟩)))
  · exact Or.inr (Or.inr (Or.inr (Or.inr ⟨rfl, a4⟩)))
/-! the reference's question by inode and field: refused, or answered -/
section
variable {N D T : Nat} {ck sa : Int32} {yl yr ye dl ds db dd : Nat → Int32} {post : Int32 → Prop} {p q : Int32}
theorem yo_f (hN : N ≤ 16) (h : ¬ dl_In N p) (hp : post (-1)) : wpY_inodeInfo post (nI N, nI D, ck, sa, nI T, yl, yr, ye, dl, ds, db, dd) p q := by
  rcases dl_In_c (by omega) h with a | ⟨a, b⟩
  · exact br_t a hp
  · exact br_f a (br_t b hp)
theorem yo_g {j : Nat} (hN : N ≤ 16) (hj : j < N) (h : q < 0 ∨ (¬ q < 0 ∧ nI 4 < q)) (hp : post (-1)) : wpY_inodeInfo post (nI N, nI D, ck, sa, nI T, yl, yr, ye, dl, ds, db, dd) (nI j) q := by
  rcases h with h | ⟨h, h2⟩
  · exact br_f (nI_pos (by omega)) (br_f (nI_ge hj (by omega)) (br_t h hp))
  · exact br_f (nI_pos (by omega)) (br_f (nI_ge hj (by omega)) (br_f h (br_f (Int32.not_le.mpr h2) hp)))
theorem yo_t {j w : Nat} (hN : N ≤ 16) (hj : j < N) (hw : w ≤ 4) (hp : post (yl (j * 5 + w))) : wpY_inodeInfo post (nI N, nI D, ck, sa, nI T, yl, yr, ye, dl, ds, db, dd) (nI j) (nI w) := by
  refine br_f (nI_pos (by omega)) (br_f (nI_ge hj (by omega)) (br_f (nI_pos (by omega)) (br_t (nI_le (b := 4) hw (by decide)) ⟨dl_v (dl_e5p j w) (by omega) (by omega), ?_⟩)))
  rw [dl_c yl (dl_e5p j w) (by omega)]
  exact hp
theorem ys_f (hN : N ≤ 16) (h : ¬ dl_In N p) (hp : post (-1)) : wpY_restoredInfo post (nI N, nI D, ck, sa, nI T, yl, yr, ye, dl, ds, db, dd) p q := by
  rcases dl_In_c (by omega) h with a | ⟨a, b⟩
  · exact br_t a hp
  · exact br_f a (br_t b hp)
theorem ys_g {j : Nat} (hN : N ≤ 16) (hj : j < N) (h : q < 0 ∨ (¬ q < 0 ∧ nI 4 < q)) (hp : post (-1)) : wpY_restoredInfo post (nI N, nI D, ck, sa, nI T, yl, yr, ye, dl, ds, db, dd) (nI j) q := by
  rcases h with h | ⟨h, h2⟩
  · exact br_f (nI_pos (by omega)) (br_f (nI_ge hj (by omega)) (br_t h hp))
  · exact br_f (nI_pos (by omega)) (br_f (nI_ge hj (by omega)) (br_f h (br_f (Int32.not_le.mpr h2) hp)))
theorem ys_t {j w : Nat} (hN : N ≤ 16) (hj : j < N) (hw : w ≤ 4) (hp : post (yr (j * 5 + w))) : wpY_restoredInfo post (nI N, nI D, ck, sa, nI T, yl, yr, ye, dl, ds, db, dd) (nI j) (nI w) := by
  refine br_f (nI_pos (by omega)) (br_f (nI_ge hj (by omega)) (br_f (nI_pos (by omega)) (br_t (nI_le (b := 4) hw (by decide)) ⟨dl_v (dl_e5p j w) (by omega) (by omega), ?_⟩)))
  rw [dl_c yr (dl_e5p j w) (by omega)]
  exact hp
end
theorem i_vc_inodeInfo {k : Nat} {u : SX} {v : SY} (I : i_Rel k u v) (hk : k + 4 ≤ 2050) (v1 : Int32) (v2 : Int32) : wpX_inodeInfo (fun r => wpY_inodeInfo (fun r' => r' = r ∧ i_Rel (k + 4) u v) v v1 v2) u v1 v2 := by
  obtain ⟨N, D, T, ck, sa, lk, lp, ln, lc, ls, dl, ds, db, dc, dd, ek, ep, en, ec, es, eg, rk, rp, rn, rc, rs, yl, yr, ye, rfl, rfl, R⟩ := I
  obtain ⟨h4, hN, hD, hT, HL, HT, HE, HR⟩ := id R
  unfold wpX_inodeInfo
  by_cases c : dl_In N v1
  · obtain ⟨j, hj, rfl⟩ := c
    have hv : vp_in (nI j) 16 := vp_in_nI (by omega) (by omega)
    have e : (nI j).toNatClampNeg = j := nI_clamp (by omega)
    refine xi_t hN hj ?_
    refine br_f dl_10 ⟨hv, hv, hv, hv, hv, ?_⟩
    rcases dl_wc v2 4 (by omega) with h | h | ⟨w, hw, rfl⟩
    · exact xq_f (Or.inl h) (yo_g hN hj (Or.inl h) ⟨rfl, dl_mk R⟩)
    · exact xq_f (Or.inr h) (yo_g hN hj (Or.inr h) ⟨rfl, dl_mk R⟩)
    · refine xq_a w hw (r := yl (j * 5 + w)) ?_ ?_
      · rw [e]; exact dl_L5 HL hj hw
      · exact yo_t hN hj hw ⟨rfl, dl_mk R⟩
  · refine xi_f hN c ?_
    exact br_t rfl (yo_f hN c ⟨rfl, dl_mk R⟩)
theorem i_vc_restoredInfo {k : Nat} {u : SX} {v : SY} (I : i_Rel k u v) (hk : k + 4 ≤ 2050) (v1 : Int32) (v2 : Int32) : wpX_restoredInfo (fun r => wpY_restoredInfo (fun r' => r' = r ∧ i_Rel (k + 4) u v) v v1 v2) u v1 v2 := by
  obtain ⟨N, D, T, ck, sa, lk, lp, ln, lc, ls, dl, ds, db, dc, dd, ek, ep, en, ec, es, eg, rk, rp, rn, rc, rs, yl, yr, ye, rfl, rfl, R⟩ := I
  obtain ⟨h4, hN, hD, hT, HL, HT, HE, HR⟩ := id R
  unfold wpX_restoredInfo
  by_cases c : dl_In N v1
  · obtain ⟨j, hj, rfl⟩ := c
    have hv : vp_in (nI j) 16 := vp_in_nI (by omega) (by omega)
    have e : (nI j).toNatClampNeg = j := nI_clamp (by omega)
    refine xi_t hN hj ?_
    refine br_f dl_10 ⟨hv, hv, hv, hv, hv, ?_⟩
    rcases dl_wc v2 4 (by omega) with h | h | ⟨w, hw, rfl⟩
    · exact xq_f (Or.inl h) (ys_g hN hj (Or.inl h) ⟨rfl, dl_mk R⟩)
    · exact xq_f (Or.inr h) (ys_g hN hj (Or.inr h) ⟨rfl, dl_mk R⟩)
    · refine xq_a w hw (r := yr (j * 5 + w)) ?_ ?_
      · rw [e]; exact dl_L5 HR hj hw
      · exact ys_t hN hj hw ⟨rfl, dl_mk R⟩
  · refine xi_f hN c ?_
    exact br_t rfl (ys_f hN c ⟨rfl, dl_mk R⟩)
theorem i_vc_dumpDate {k : Nat} {u : SX} {v : SY} (I : i_Rel k u v) (hk : k + 4 ≤ 2050) (v1 : Int32) : wpX_dumpDate (fun r => wpY_dumpDate (fun r' => r' = r ∧ i_Rel (k + 4) u v) v v1) u v1 := by
  obtain ⟨N, D, T, ck, sa, lk, lp, ln, lc, ls, dl, ds, db, dc, dd, ek, ep, en, ec, es, eg, rk, rp, rn, rc, rs, yl, yr, ye, rfl, rfl, R⟩ := I
  obtain ⟨h4, hN, hD, hT, HL, HT, HE, HR⟩ := id R
  unfold wpX_dumpDate
  rcases dl_wc v1 9 (by omega) with h | ⟨h, h2⟩ | ⟨w, hw, rfl⟩
  · refine xv_f (fun ⟨j, hj, e⟩ => nI_pos (n := j) (by omega) (e ▸ h)) ?_
    exact br_t rfl (br_t h ⟨rfl, dl_mk R⟩)
  · refine xv_f ?_ ?_
    · intro ⟨j, hj, e⟩
      rw [e, nI_ltI (by omega) (by omega)] at h2
      omega
    · exact br_t rfl (br_f h (br_f (Int32.not_le.mpr h2) ⟨rfl, dl_mk R⟩))
  · have hv : vp_in (nI w) 10 := vp_in_nI (by omega) (by omega)
    refine xv_t (by omega) ?_
    exact br_f dl_10 ⟨hv, br_f (nI_pos (by omega)) (br_t (nI_le (b := 9) hw (by decide)) ⟨hv, rfl, dl_mk R⟩)⟩
/-! lookup -/
theorem dl_MY {N j : Nat} {dir nm : Int32} {lk lp ln lc ls yl : Nat → Int32} (HL : dl_L N lk lp ln lc ls yl) (hN : N ≤ 16) (hj : j < N) : (lk j ≠ 0 ∧ lp j = dir ∧ ln j = nm) ↔ dl_Y yl dir nm (-1) j := by
  obtain ⟨a0, a1, a2, a3, a4⟩ := HL j hj
  unfold dl_Y
  rw [a0, a1, a2]
  exact ⟨fun h => ⟨dl_m1 (by omega), h⟩, fun h => h.2⟩
section
variable {N D T : Nat} {ck sa : Int32} {yl yr ye dl ds db dd : Nat → Int32} {post : Int32 → Prop} {p q : Int32}
theorem yk_i (hN : N ≤ 16) (h : ¬ dl_In N p) (hp : post (-1)) : wpY_lookup post (nI N, nI D, ck, sa, nI T, yl, yr, ye, dl, ds, db, dd) p q := by
  rcases dl_In_c (by omega) h with a | ⟨a, b⟩
  · exact br_t a hp
  · exact br_f a (br_t b hp)
theorem yk_n {j : Nat} (hN : N ≤ 16) (hj : j < N) (h : ¬ (¬ q < 1 ∧ ¬ 255 < q)) (hp : post (-1)) : wpY_lookup post (nI N, nI D, ck, sa, nI T, yl, yr, ye, dl, ds, db, dd) (nI j) q := by
  by_cases a : q < 1
  · exact br_f (nI_pos (by omega)) (br_f (nI_ge hj (by omega)) (br_t a hp))
  · by_cases b : 255 < q
    · exact br_f (nI_pos (by omega)) (br_f (nI_ge hj (by omega)) (br_f a (br_f (Int32.not_le.mpr b) hp)))
    · exact absurd ⟨a, b⟩ h
theorem yk_t {j : Nat} (hN : N ≤ 16) (hj : j < N) (a : ¬ q < 1) (b : ¬ 255 < q) (hp : wpY_findEntry post (nI N, nI D, ck, sa, nI T, yl, yr, ye, dl, ds, db, dd) (nI j) q (-1)) : wpY_lookup post (nI N, nI D, ck, sa, nI T, yl, yr, ye, dl, ds, db, dd) (nI j) q :=
  br_f (nI_pos (by omega)) (br_f (nI_ge hj (by omega)) (br_f a (br_t (Int32.not_lt.mp b) hp)))
end
theorem i_vc_lookup {k : Nat} {u : SX} {v : SY} (I : i_Rel k u v) (hk : k + 4 ≤ 2050) (v1 : Int32) (v2 : Int32) : wpX_lookup (fun r => wpY_lookup (fun r' => r' = r ∧ i_Rel (k + 4) u v) v v1 v2) u v1 v2 := by
  obtain ⟨N, D, T, ck, sa, lk, lp, ln, lc, ls, dl, ds, db, dc, dd, ek, ep, en, ec, es, eg, rk, rp, rn, rc, rs, yl, yr, ye, rfl, rfl, R⟩ := I
  obtain ⟨h4, hN, hD, hT, HL, HT, HE, HR⟩ := id R
  unfold wpX_lookup
  by_cases c : dl_In N v1
  · obtain ⟨j, hj, rfl⟩ := c
    refine xi_t hN hj ?_
    refine br_f dl_10 ?_
    by_cases n : ¬ v2 < 1 ∧ ¬ 255 < v2
    · refine xn_t n.1 n.2 ?_
      refine br_f dl_10 ?_
      refine xf_a hN ?_
      intro r hr
      refine yk_t hN hj n.1 n.2 ?_
      refine yf_a hN h4 ?_
      intro r' hr'
      exact ⟨dl_Gu (fun i _ hi => dl_MY HL hN hi) hr hr', dl_mk R⟩
    · refine xn_f n ?_
      exact br_t rfl (yk_n hN hj n ⟨rfl, dl_mk R⟩)
  · refine xi_f hN c ?_
    exact br_t rfl (yk_i hN c ⟨rfl, dl_mk R⟩)
