/-! questions about dumps -/
theorem dl_E6 {p w : Nat} {ek ep en ec es eg ye : Nat → Int32} (h : dl_E1 p ek ep en ec es eg ye) (hw : w ≤ 4) : (w = 0 ∧ ye (p * 6 + w) = ek p) ∨ (w = 1 ∧ ye (p * 6 + w) = ep p) ∨ (w = 2 ∧ ye (p * 6 + w) = en p) ∨ (w = 3 ∧ ye (p * 6 + w) = ec p) ∨ (w = 4 ∧ ye (p * 6 + w) = es p) := by
  obtain ⟨a0, a1, a2, a3, a4, a5, a6⟩ := h
  have h : w = 0 ∨ w = 1 ∨ w = 2 ∨ w = 3 ∨ w = 4 := by omega
  rcases h with rfl | rfl | rfl | rfl | rfl
  · exact Or.inl ⟨rfl, a0⟩
  · exact Or.inr (Or.inl ⟨rfl, a1⟩)
  · exact Or.inr (Or.inr (Or.inl ⟨rfl, a2⟩))
  · exact Or.inr (Or.inr (Or.inr (Or.inl ⟨rfl, a3⟩)))
  · exact Or.inr (Or.inr (Or.inr (Or.inr ⟨rfl, a4⟩)))
theorem xx_a {post : Int32 → Prop} {d i : Nat} (hp : post (nI (d * 16 + i))) : wpX_entryIndex post (nI d) (nI i) := by
  unfold wpX_entryIndex
  rw [dl_e16]
  exact hp
section
variable {N D T : Nat} {ck sa : Int32} {yl yr ye dl ds db dd : Nat → Int32} {post : Int32 → Prop} {p q w : Int32} {d i : Nat}
theorem ye_d (hT : T ≤ 8) (h : ¬ dl_In T p) (hp : post (-1)) : wpY_dumpEntry post (nI N, nI D, ck, sa, nI T, yl, yr, ye, dl, ds, db, dd) p q w := by
  rcases dl_In_c (by omega) h with a | ⟨a, b⟩
  · exact br_t a hp
  · exact br_f a (br_t b hp)
theorem ye_i (hN : N ≤ 16) (hT : T ≤ 8) (hd : d < T) (h : ¬ dl_In N q) (hp : post (-1)) : wpY_dumpEntry post (nI N, nI D, ck, sa, nI T, yl, yr, ye, dl, ds, db, dd) (nI d) q w := by
  rcases dl_In_c (by omega) h with a | ⟨a, b⟩
  · exact br_f (nI_pos (by omega)) (br_f (nI_ge hd (by omega)) (br_t a hp))
  · exact br_f (nI_pos (by omega)) (br_f (nI_ge hd (by omega)) (br_f a (br_t b hp)))
theorem ye_w (hN : N ≤ 16) (hT : T ≤ 8) (hd : d < T) (hi : i < N) (h : w < 0 ∨ (¬ w < 0 ∧ nI 5 < w)) (hp : post (-1)) : wpY_dumpEntry post (nI N, nI D, ck, sa, nI T, yl, yr, ye, dl, ds, db, dd) (nI d) (nI i) w := by
  rcases h with a | ⟨a, b⟩
  · exact br_f (nI_pos (by omega)) (br_f (nI_ge hd (by omega)) (br_f (nI_pos (by omega)) (br_f (nI_ge hi (by omega)) (br_t a hp))))
  · exact br_f (nI_pos (by omega)) (br_f (nI_ge hd (by omega)) (br_f (nI_pos (by omega)) (br_f (nI_ge hi (by omega)) (br_f a (br_f (Int32.not_le.mpr b) hp)))))
theorem ye_t {m : Nat} (hN : N ≤ 16) (hT : T ≤ 8) (hd : d < T) (hi : i < N) (hm : m ≤ 5) (hp : post (ye ((d * 16 + i) * 6 + m))) : wpY_dumpEntry post (nI N, nI D, ck, sa, nI T, yl, yr, ye, dl, ds, db, dd) (nI d) (nI i) (nI m) := by
  refine br_f (nI_pos (by omega)) (br_f (nI_ge hd (by omega)) (br_f (nI_pos (by omega)) (br_f (nI_ge hi (by omega)) (br_f (nI_pos (by omega)) (br_t (nI_le (b := 5) hm (by decide)) ⟨dl_v (dl_e6p d i m) (by omega) (by omega), ?_⟩)))))
  rw [dl_c ye (dl_e6p d i m) (by omega)]
  exact hp
theorem yu_l (hN : N ≤ 16) (hd : d < 8) (hp : post (dl_ct (fun p => ye (p * 6 + 5)) (d * 16) N)) : ∀ n i : Nat, i + n = N → wY_dumpInfo_63 post (nI d) (nI N) (nI D) ck sa (nI T) yl yr ye dl ds db dd (n + 1) (dl_ct (fun p => ye (p * 6 + 5)) (d * 16) i) (nI i) := by
  intro n
  induction n with
  | zero =>
    intro i hi
    have e : i = N := by omega
    subst e
    exact br_t (nI_le (by omega) (by omega)) hp
  | succ n ih =>
    intro i hi
    have hc : ¬ nI N ≤ nI i := nI_ge (by omega) (by omega)
    have h := ih (i + 1) (by omega)
    by_cases c : ye ((d * 16 + i) * 6 + 5) = 1
    · have e : dl_ct (fun p => ye (p * 6 + 5)) (d * 16) (i + 1) = dl_ct (fun p => ye (p * 6 + 5)) (d * 16) i + 1 := if_pos c
      rw [e] at h
      exact br_f hc ⟨dl_v (dl_e6p d i 5) (by omega) (by omega), br_t ((dl_c ye (dl_e6p d i 5) (by omega)).trans c) (nm_e (nm_r (nI_1 i) h))⟩
    · have e : dl_ct (fun p => ye (p * 6 + 5)) (d * 16) (i + 1) = dl_ct (fun p => ye (p * 6 + 5)) (d * 16) i := if_neg c
      rw [e] at h
      exact br_f hc ⟨dl_v (dl_e6p d i 5) (by omega) (by omega), br_f (fun z => c ((dl_c ye (dl_e6p d i 5) (by omega)).symm.trans z)) (nm_r (nI_1 i) h)⟩
theorem yu_a (hN : N ≤ 16) (hd : d < 8) (hp : post (dl_ct (fun p => ye (p * 6 + 5)) (d * 16) N)) : ∃ n, wY_dumpInfo_63 post (nI d) (nI N) (nI D) ck sa (nI T) yl yr ye dl ds db dd n 0 0 :=
  ⟨N + 1, yu_l hN hd hp N 0 (by omega)⟩
theorem yv_d (hT : T ≤ 8) (h : ¬ dl_In T p) (hp : post (-1)) : wpY_dumpInfo post (nI N, nI D, ck, sa, nI T, yl, yr, ye, dl, ds, db, dd) p q := by
  rcases dl_In_c (by omega) h with a | ⟨a, b⟩
  · exact br_t a hp
  · exact br_f a (br_t b hp)
theorem yv_w (hT : T ≤ 8) (hd : d < T) (h : q < 0 ∨ (¬ q < 0 ∧ nI 3 < q)) (hp : post (-1)) : wpY_dumpInfo post (nI N, nI D, ck, sa, nI T, yl, yr, ye, dl, ds, db, dd) (nI d) q := by
  rcases h with a | ⟨a, b⟩
  · exact br_f (nI_pos (by omega)) (br_f (nI_ge hd (by omega)) (br_t a hp))
  · exact br_f (nI_pos (by omega)) (br_f (nI_ge hd (by omega)) (br_f a (br_f (Int32.not_le.mpr b) hp)))
theorem yv_0 (hT : T ≤ 8) (hd : d < T) (hp : post (dl d)) : wpY_dumpInfo post (nI N, nI D, ck, sa, nI T, yl, yr, ye, dl, ds, db, dd) (nI d) (nI 0) := by
  refine br_f (nI_pos (by omega)) (br_f (nI_ge hd (by omega)) (br_f (nI_pos (by omega)) (br_t (nI_le (b := 3) (by omega) (by decide)) (br_t rfl ⟨vp_in_nI (by omega) (by omega), ?_⟩))))
  rw [dl_c dl rfl (by omega)]
  exact hp
theorem yv_1 (hT : T ≤ 8) (hd : d < T) (hp : post (ds d)) : wpY_dumpInfo post (nI N, nI D, ck, sa, nI T, yl, yr, ye, dl, ds, db, dd) (nI d) (nI 1) := by
  refine br_f (nI_pos (by omega)) (br_f (nI_ge hd (by omega)) (br_f (nI_pos (by omega)) (br_t (nI_le (b := 3) (by omega) (by decide)) (br_f (by decide +kernel) (br_t rfl ⟨vp_in_nI (by omega) (by omega), ?_⟩)))))
  rw [dl_c ds rfl (by omega)]
  exact hp
theorem yv_2 (hT : T ≤ 8) (hd : d < T) (hp : post (db d)) : wpY_dumpInfo post (nI N, nI D, ck, sa, nI T, yl, yr, ye, dl, ds, db, dd) (nI d) (nI 2) := by
  refine br_f (nI_pos (by omega)) (br_f (nI_ge hd (by omega)) (br_f (nI_pos (by omega)) (br_t (nI_le (b := 3) (by omega) (by decide)) (br_f (by decide +kernel) (br_f (by decide +kernel) (br_t rfl ⟨vp_in_nI (by omega) (by omega), ?_⟩))))))
  rw [dl_c db rfl (by omega)]
  exact hp
theorem yv_3 (hN : N ≤ 16) (hT : T ≤ 8) (hd : d < T) (hp : post (dl_ct (fun p => ye (p * 6 + 5)) (d * 16) N)) : wpY_dumpInfo post (nI N, nI D, ck, sa, nI T, yl, yr, ye, dl, ds, db, dd) (nI d) (nI 3) :=
  br_f (nI_pos (by omega)) (br_f (nI_ge hd (by omega)) (br_f (nI_pos (by omega)) (br_t (nI_le (b := 3) (by omega) (by decide)) (br_f (by decide +kernel) (br_f (by decide +kernel) (br_f (by decide +kernel) (yu_a hN (by omega) hp)))))))
end
theorem i_vc_dumpInfo {k : Nat} {u : SX} {v : SY} (I : i_Rel k u v) (hk : k + 4 ≤ 2050) (v1 : Int32) (v2 : Int32) : wpX_dumpInfo (fun r => wpY_dumpInfo (fun r' => r' = r ∧ i_Rel (k + 4) u v) v v1 v2) u v1 v2 := by
  obtain ⟨N, D, T, ck, sa, lk, lp, ln, lc, ls, dl, ds, db, dc, dd, ek, ep, en, ec, es, eg, rk, rp, rn, rc, rs, yl, yr, ye, rfl, rfl, R⟩ := I
  obtain ⟨h4, hN, hD, hT, HL, HT, HE, HR⟩ := id R
  have hT8 : T ≤ 8 := by omega
  unfold wpX_dumpInfo
  by_cases c : dl_In T v1
  · obtain ⟨d, hd, rfl⟩ := c
    have hv : vp_in (nI d) 8 := vp_in_nI (by omega) (by omega)
    have e : (nI d).toNatClampNeg = d := nI_clamp (by omega)
    refine xk_t hT8 hd ?_
    refine br_f dl_10 ?_
    rcases dl_wc v2 3 (by omega) with h | h | ⟨w, hw, rfl⟩
    · exact br_t h (yv_w hT8 hd (Or.inl h) ⟨rfl, dl_mk R⟩)
    · exact br_f h.1 (br_t h.2 (yv_w hT8 hd (Or.inr h) ⟨rfl, dl_mk R⟩))
    · refine br_f (nI_pos (by omega)) (br_f (nI_nlt (b := w) (a := 3) hw (by omega)) ?_)
      have h : w = 0 ∨ w = 1 ∨ w = 2 ∨ w = 3 := by omega
      rcases h with rfl | rfl | rfl | rfl
      · refine br_t rfl ⟨hv, ?_⟩
        rw [e]
        exact yv_0 hT8 hd ⟨rfl, dl_mk R⟩
      · refine br_f (by decide +kernel) (br_t rfl ⟨hv, ?_⟩)
        rw [e]
        exact yv_1 hT8 hd ⟨rfl, dl_mk R⟩
      · refine br_f (by decide +kernel) (br_f (by decide +kernel) (br_t rfl ⟨hv, ?_⟩))
        rw [e]
        exact yv_2 hT8 hd ⟨rfl, dl_mk R⟩
      · refine br_f (by decide +kernel) (br_f (by decide +kernel) (br_f (by decide +kernel) (br_t rfl ⟨hv, ?_⟩)))
        rw [e]
        refine yv_3 hN hT8 hd ⟨?_, dl_mk R⟩
        rw [(HE.1 d hd).1]
        exact dl_ctc N fun i hi => ((HE.1 d hd).2 i hi).2.2.2.2.2.1
  · refine xk_f hT8 c ?_
    exact br_t rfl (yv_d hT8 c ⟨rfl, dl_mk R⟩)
theorem i_vc_dumpEntry {k : Nat} {u : SX} {v : SY} (I : i_Rel k u v) (hk : k + 4 ≤ 2050) (v1 : Int32) (v2 : Int32) (v3 : Int32) : wpX_dumpEntry (fun r => wpY_dumpEntry (fun r' => r' = r ∧ i_Rel (k + 4) u v) v v1 v2 v3) u v1 v2 v3 := by
  obtain ⟨N, D, T, ck, sa, lk, lp, ln, lc, ls, dl, ds, db, dc, dd, ek, ep, en, ec, es, eg, rk, rp, rn, rc, rs, yl, yr, ye, rfl, rfl, R⟩ := I
  obtain ⟨h4, hN, hD, hT, HL, HT, HE, HR⟩ := id R
  have hT8 : T ≤ 8 := by omega
  unfold wpX_dumpEntry
  by_cases c : dl_In T v1
  · obtain ⟨d, hd, rfl⟩ := c
    refine xk_t hT8 hd ?_
    refine br_f dl_10 ?_
    by_cases c2 : dl_In N v2
    · obtain ⟨i, hi, rfl⟩ := c2
      have hv : vp_in (nI (d * 16 + i)) 128 := vp_in_nI (by omega) (by omega)
      have e : (nI (d * 16 + i)).toNatClampNeg = d * 16 + i := nI_clamp (by omega)
      have hE := (HE.1 d hd).2 i hi
      refine xi_t hN hi ?_
      refine br_f dl_10 ?_
      refine xx_a ?_
      by_cases k5 : v3 = 5
      · subst k5
        refine br_t rfl ⟨hv, ?_⟩
        rw [e]
        exact ye_t (m := 5) hN hT8 hd hi (by omega) ⟨hE.2.2.2.2.2.1, dl_mk R⟩
      · refine br_f k5 ⟨hv, hv, hv, hv, hv, ?_⟩
        rcases dl_wc v3 4 (by omega) with h | ⟨h, h2⟩ | ⟨w, hw, rfl⟩
        · exact xq_f (Or.inl h) (ye_w hN hT8 hd hi (Or.inl h) ⟨rfl, dl_mk R⟩)
        · refine xq_f (Or.inr ⟨h, h2⟩) (ye_w hN hT8 hd hi (Or.inr ⟨h, ?_⟩) ⟨rfl, dl_mk R⟩)
          obtain ⟨m, hm, rfl⟩ := nI_of h
          rw [nI_ltI (by omega) hm] at h2
          have m5 : m ≠ 5 := fun z => k5 (by rw [z]; rfl)
          exact nI_lt (by omega) hm
        · refine xq_a w hw (r := ye ((d * 16 + i) * 6 + w)) ?_ ?_
          · rw [e]; exact dl_E6 hE hw
          · exact ye_t hN hT8 hd hi (by omega) ⟨rfl, dl_mk R⟩
    · refine xi_f hN c2 ?_
      exact br_t rfl (ye_i hN hT8 hd c2 ⟨rfl, dl_mk R⟩)
  · refine xk_f hT8 c ?_
    exact br_t rfl (ye_d hT8 c ⟨rfl, dl_mk R⟩)
