/-! dump: the base -/
def dl_mx (dd : Nat → Int32) : Nat → Int32
  | 0 => 0
  | n + 1 => if dd n ≤ dl_mx dd n then dl_mx dd n else dd n
section
variable {N D T : Nat} {ck sa : Int32} {lk lp ln lc ls dl ds db dc dd ek ep en ec es eg rk rp rn rc rs : Nat → Int32} {post : Int32 → Prop} {l : Nat}
theorem xm_l (hl : l ≤ 10) (hp : post (dl_mx dd l)) : ∀ n i : Nat, i + n = l → wX_latestDateBelow_4 post (nI l) (nI N) (nI D) ck (nI T) sa lk lp ln lc ls dl ds db dc dd ek ep en ec es eg rk rp rn rc rs (n + 1) (dl_mx dd i) (nI i) := by
  intro n
  induction n with
  | zero =>
    intro i hi
    have e : i = l := by omega
    subst e
    exact br_t (nI_le (by omega) (by omega)) hp
  | succ n ih =>
    intro i hi
    have hc : ¬ nI l ≤ nI i := nI_ge (by omega) (by omega)
    have hv : vp_in (nI i) 10 := vp_in_nI (by omega) (by omega)
    have h := ih (i + 1) (by omega)
    by_cases c : dd i ≤ dl_mx dd i
    · have e : dl_mx dd (i + 1) = dl_mx dd i := if_pos c
      rw [e] at h
      exact br_f hc ⟨hv, br_t (by rw [dl_c dd rfl (by omega)]; exact c) (nm_r (nI_1 i) h)⟩
    · have e : dl_mx dd (i + 1) = dd i := if_neg c
      rw [e] at h
      exact br_f hc ⟨hv, br_f (by rw [dl_c dd rfl (by omega)]; exact c) ⟨hv, nm_r (dl_c dd rfl (by omega)) (nm_r (nI_1 i) h)⟩⟩
theorem xm_a (hl : l ≤ 10) (hp : post (dl_mx dd l)) : wpX_latestDateBelow post (nI N, nI D, ck, nI T, sa, lk, lp, ln, lc, ls, dl, ds, db, dc, dd, ek, ep, en, ec, es, eg, rk, rp, rn, rc, rs) (nI l) :=
  ⟨l + 1, xm_l hl hp l 0 (by omega)⟩
end
section
variable {N D T : Nat} {ck sa : Int32} {yl yr ye dl ds db dd : Nat → Int32} {post : Int32 → SY → Prop} {l : Nat}
theorem ym_l (hl : l ≤ 10) (hp : ∃ n, wY_dump_77 post (nI l) (dl_mx dd l) (nI T) (nI N) (nI D) ck sa (nI T) n 0 yl yr ye dl ds db dd) : ∀ n i : Nat, i + n = l → wY_dump_41 post (nI l) (nI N) (nI D) ck sa (nI T) yl yr ye dl ds db dd (n + 1) (dl_mx dd i) (nI i) := by
  intro n
  induction n with
  | zero =>
    intro i hi
    have e : i = l := by omega
    subst e
    exact br_t (nI_le (by omega) (by omega)) hp
  | succ n ih =>
    intro i hi
    have hc : ¬ nI l ≤ nI i := nI_ge (by omega) (by omega)
    have hv : vp_in (nI i) 10 := vp_in_nI (by omega) (by omega)
    have h := ih (i + 1) (by omega)
    by_cases c : dd i ≤ dl_mx dd i
    · have e : dl_mx dd (i + 1) = dl_mx dd i := if_pos c
      rw [e] at h
      exact br_f hc ⟨hv, br_t (by rw [dl_c dd rfl (by omega)]; exact c) (nm_r (nI_1 i) h)⟩
    · have e : dl_mx dd (i + 1) = dd i := if_neg c
      rw [e] at h
      exact br_f hc ⟨hv, br_f (by rw [dl_c dd rfl (by omega)]; exact c) ⟨hv, nm_r (dl_c dd rfl (by omega)) (nm_r (nI_1 i) h)⟩⟩
theorem ym_a (hl : l ≤ 10) (hp : ∃ n, wY_dump_77 post (nI l) (dl_mx dd l) (nI T) (nI N) (nI D) ck sa (nI T) n 0 yl yr ye dl ds db dd) : ∃ n, wY_dump_41 post (nI l) (nI N) (nI D) ck sa (nI T) yl yr ye dl ds db dd n 0 0 :=
  ⟨l + 1, ym_l hl hp l 0 (by omega)⟩
end
/-! dump: the component records -/
def dl_nw (lk ls : Nat → Int32) (b : Int32) (i : Nat) : Prop := 0 < i ∧ lk i ≠ 0 ∧ ¬ ls i ≤ b
def dl_S1 (q : Nat) (lk lp ln lc ls : Nat → Int32) (b : Int32) (ek ep en ec es eg : Nat → Int32) (i : Nat) : Prop := ek (q + i) = lk i ∧ ep (q + i) = lp i ∧ en (q + i) = ln i ∧ (dl_nw lk ls b i → ec (q + i) = lc i ∧ es (q + i) = ls i ∧ eg (q + i) = 1) ∧ (¬ dl_nw lk ls b i → ec (q + i) = 0 ∧ es (q + i) = 0 ∧ eg (q + i) = 0)
def dl_S (q i : Nat) (lk lp ln lc ls : Nat → Int32) (b : Int32) (ek ep en ec es eg ek' ep' en' ec' es' eg' : Nat → Int32) : Prop := (∀ m, m < i → dl_S1 q lk lp ln lc ls b ek' ep' en' ec' es' eg' m) ∧ (∀ p, q + i ≤ p → ec' p = 0 ∧ es' p = 0 ∧ eg' p = 0) ∧ (∀ p, p < q → ek' p = ek p ∧ ep' p = ep p ∧ en' p = en p ∧ ec' p = ec p ∧ es' p = es p ∧ eg' p = eg p)
theorem dl_Sn {q i : Nat} {b : Int32} {lk lp ln lc ls ek ep en ec es eg ek' ep' en' ec' es' eg' : Nat → Int32} (h : dl_S q i lk lp ln lc ls b ek ep en ec es eg ek' ep' en' ec' es' eg') (hn : ¬ dl_nw lk ls b i) : dl_S q (i + 1) lk lp ln lc ls b ek ep en ec es eg (upd ek' (q + i) (lk i)) (upd ep' (q + i) (lp i)) (upd en' (q + i) (ln i)) ec' es' eg' := by
  obtain ⟨h1, h2, h3⟩ := h
  refine ⟨?_, ?_, ?_⟩
  · intro m hm
    by_cases z : m = i
    · subst z
      exact ⟨pk_us, pk_us, pk_us, fun w => absurd w hn, fun _ => h2 _ (by omega)⟩
    · obtain ⟨a0, a1, a2, a3, a4⟩ := h1 m (by omega)
      refine ⟨?_, ?_, ?_, a3, a4⟩
      · rw [pk_un (by omega)]; exact a0
      · rw [pk_un (by omega)]; exact a1
      · rw [pk_un (by omega)]; exact a2
  · intro p hp
    exact h2 p (by omega)
  · intro p hp
    obtain ⟨a0, a1, a2, a3, a4, a5⟩ := h3 p hp
    refine ⟨?_, ?_, ?_, a3, a4, a5⟩
    · rw [pk_un (by omega)]; exact a0
    · rw [pk_un (by omega)]; exact a1
    · rw [pk_un (by omega)]; exact a2
theorem dl_Sy {q i : Nat} {b : Int32} {lk lp ln lc ls ek ep en ec es eg ek' ep' en' ec' es' eg' : Nat → Int32} (h : dl_S q i lk lp ln lc ls b ek ep en ec es eg ek' ep' en' ec' es' eg') (hn : dl_nw lk ls b i) : dl_S q (i + 1) lk lp ln lc ls b ek ep en ec es eg (upd ek' (q + i) (lk i)) (upd ep' (q + i) (lp i)) (upd en' (q + i) (ln i)) (upd ec' (q + i) (lc i)) (upd es' (q + i) (ls i)) (upd eg' (q + i) 1) := by
  obtain ⟨h1, h2, h3⟩ := h
  refine ⟨?_, ?_, ?_⟩
  · intro m hm
    by_cases z : m = i
    · subst z
      exact ⟨pk_us, pk_us, pk_us, fun _ => ⟨pk_us, pk_us, pk_us⟩, fun w => absurd hn w⟩
    · obtain ⟨a0, a1, a2, a3, a4⟩ := h1 m (by omega)
      refine ⟨?_, ?_, ?_, ?_, ?_⟩
      · rw [pk_un (by omega)]; exact a0
      · rw [pk_un (by omega)]; exact a1
      · rw [pk_un (by omega)]; exact a2
      · rw [pk_un (by omega), pk_un (by omega), pk_un (by omega)]; exact a3
      · rw [pk_un (by omega), pk_un (by omega), pk_un (by omega)]; exact a4
  · intro p hp
    rw [pk_un (by omega), pk_un (by omega), pk_un (by omega)]
    exact h2 p (by omega)
  · intro p hp
    rw [pk_un (by omega), pk_un (by omega), pk_un (by omega), pk_un (by omega), pk_un (by omega), pk_un (by omega)]
    exact h3 p hp
section
variable {N D T : Nat} {ck sa : Int32} {lk lp ln lc ls dl ds db dc dd ek ep en ec es eg rk rp rn rc rs : Nat → Int32} {post : Int32 → SX → Prop}
theorem xr_l (hN : N ≤ 16) (hT : T < 8) (hp : ∀ ek' ep' en' ec' es' eg' : Nat → Int32, dl_S (T * 16) N lk lp ln lc ls (db T) ek ep en ec es eg ek' ep' en' ec' es' eg' → post (dl_ct eg' (T * 16) N) (nI N, nI D, ck, nI T, sa, lk, lp, ln, lc, ls, dl, ds, db, dc, dd, ek', ep', en', ec', es', eg', rk, rp, rn, rc, rs)) : ∀ (n i : Nat) (ek' ep' en' ec' es' eg' : Nat → Int32), i + n = N → dl_S (T * 16) i lk lp ln lc ls (db T) ek ep en ec es eg ek' ep' en' ec' es' eg' → wX_recordEntries_4 post (nI T) (nI N) (nI D) ck (nI T) sa (n + 1) (dl_ct eg' (T * 16) i) (nI i) lk lp ln lc ls dl ds db dc dd ek' ep' en' ec' es' eg' rk rp rn rc rs := by
  intro n
  induction n with
  | zero =>
    intro i ek' ep' en' ec' es' eg' hi h
    have e : i = N := by omega
    subst e
    exact br_t (nI_le (by omega) (by omega)) (hp _ _ _ _ _ _ h)
  | succ n ih =>
    intro i ek' ep' en' ec' es' eg' hi h
    have hc : ¬ nI N ≤ nI i := nI_ge (by omega) (by omega)
    have hv : vp_in (nI i) 16 := vp_in_nI (by omega) (by omega)
    have hw : vp_in (nI (T * 16 + i)) 128 := vp_in_nI (by omega) (by omega)
    have h8 : vp_in (nI T) 8 := vp_in_nI (by omega) (by omega)
    refine br_f hc (xx_a ?_)
    refine ⟨hv, hw, nm_r (dl_u rfl (by omega) (dl_c lk rfl (by omega))) ⟨hv, hw, nm_r (dl_u rfl (by omega) (dl_c lp rfl (by omega))) ⟨hv, hw, nm_r (dl_u rfl (by omega) (dl_c ln rfl (by omega))) ⟨h8, ?_⟩⟩⟩⟩
    rw [dl_c db rfl (by omega)]
    by_cases c : dl_nw lk ls (db T) i
    · refine xw_t hN c.1 (by omega) c.2.1 c.2.2 ?_
      refine br_f dl_10 ⟨hv, hw, nm_r (dl_u rfl (by omega) (dl_c lc rfl (by omega))) ⟨hv, hw, nm_r (dl_u rfl (by omega) (dl_c ls rfl (by omega))) ⟨hw, nm_r (dl_u rfl (by omega) rfl) ?_⟩⟩⟩
      have e : dl_ct (upd eg' (T * 16 + i) 1) (T * 16) (i + 1) = dl_ct eg' (T * 16) i + 1 := by
        have e1 : dl_ct (upd eg' (T * 16 + i) 1) (T * 16) i = dl_ct eg' (T * 16) i := dl_ctc i fun m hm => pk_un (by omega)
        show (if upd eg' (T * 16 + i) 1 (T * 16 + i) = 1 then dl_ct (upd eg' (T * 16 + i) 1) (T * 16) i + 1 else dl_ct (upd eg' (T * 16 + i) 1) (T * 16) i) = _
        rw [if_pos pk_us, e1]
      have g := ih (i + 1) _ _ _ _ _ _ (by omega) (dl_Sy h c)
      rw [e] at g
      exact nm_e (nm_r (nI_1 i) g)
    · refine xw_f hN (by omega) c ?_
      have e : dl_ct eg' (T * 16) (i + 1) = dl_ct eg' (T * 16) i := by
        have e0 : ¬ eg' (T * 16 + i) = 1 := by
          rw [(h.2.1 _ (Nat.le_refl _)).2.2]
          decide
        exact if_neg e0
      have g := ih (i + 1) _ _ _ _ _ _ (by omega) (dl_Sn h c)
      rw [e] at g
      exact br_t rfl (nm_r (nI_1 i) g)
theorem xr_a (hN : N ≤ 16) (hT : T < 8) (hz : ∀ p, T * 16 ≤ p → ec p = 0 ∧ es p = 0 ∧ eg p = 0) (hp : ∀ ek' ep' en' ec' es' eg' : Nat → Int32, dl_S (T * 16) N lk lp ln lc ls (db T) ek ep en ec es eg ek' ep' en' ec' es' eg' → post (dl_ct eg' (T * 16) N) (nI N, nI D, ck, nI T, sa, lk, lp, ln, lc, ls, dl, ds, db, dc, dd, ek', ep', en', ec', es', eg', rk, rp, rn, rc, rs)) : wpX_recordEntries post (nI N, nI D, ck, nI T, sa, lk, lp, ln, lc, ls, dl, ds, db, dc, dd, ek, ep, en, ec, es, eg, rk, rp, rn, rc, rs) (nI T) :=
  ⟨N + 1, xr_l hN hT hp N 0 ek ep en ec es eg (by omega) ⟨fun m hm => absurd hm (by omega), fun p hp => hz p (by omega), fun p _ => ⟨rfl, rfl, rfl, rfl, rfl, rfl⟩⟩⟩
end
/-! dump: the reference records -/
def dl_Q1 (q : Nat) (yl : Nat → Int32) (b : Int32) (ye : Nat → Int32) (i : Nat) : Prop := ye ((q + i) * 6) = yl (i * 5) ∧ ye ((q + i) * 6 + 1) = yl (i * 5 + 1) ∧ ye ((q + i) * 6 + 2) = yl (i * 5 + 2) ∧ (dl_nw (fun j => yl (j * 5)) (fun j => yl (j * 5 + 4)) b i → ye ((q + i) * 6 + 3) = yl (i * 5 + 3) ∧ ye ((q + i) * 6 + 4) = yl (i * 5 + 4) ∧ ye ((q + i) * 6 + 5) = 1) ∧ (¬ dl_nw (fun j => yl (j * 5)) (fun j => yl (j * 5 + 4)) b i → ye ((q + i) * 6 + 3) = 0 ∧ ye ((q + i) * 6 + 4) = 0 ∧ ye ((q + i) * 6 + 5) = 0)
def dl_Z (N q i : Nat) (yl : Nat → Int32) (b : Int32) (ye ye' : Nat → Int32) : Prop := (∀ p, p < (q + i) * 6 → ye' p = ye p) ∧ (i < N → dl_Q1 q yl b ye' i)
section
variable {N D T : Nat} {ck sa : Int32} {yl yr ye dl ds db dd : Nat → Int32} {post : Int32 → SY → Prop} {J : Int32 → (Nat → Int32) → (Nat → Int32) → (Nat → Int32) → (Nat → Int32) → (Nat → Int32) → (Nat → Int32) → (Nat → Int32) → Prop} {x1 x2 x3 : Int32}
theorem y9_s {i r f n : Nat} (hr : r ≤ 762) (hf : f < 6) (h : wY_dump_99 post J x1 x2 x3 (nI i) (nI r) (nI N) (nI D) ck sa (nI T) n (nI (f + 1)) yl yr (upd ye (r + f) 0) dl ds db dd) : wY_dump_99 post J x1 x2 x3 (nI i) (nI r) (nI N) (nI D) ck sa (nI T) (n + 1) (nI f) yl yr ye dl ds db dd :=
  br_f (nI_ge (b := 6) hf (by decide)) ⟨dl_v (nI_add r f) (by omega) (by omega), nm_r (dl_u (nI_add r f) (by omega) rfl) (nm_r (nI_1 f) h)⟩
theorem y9_e {i q n : Nat} (hN : N ≤ 16) (hi : i < 16) (hq : q ≤ 112) (h6 : ∀ p, (q + i) * 6 ≤ p → p < (q + i) * 6 + 6 → ye p = 0) (hJ : ∀ ye', dl_Z N q i yl x2 ye ye' → J (nI (i + 1)) yl yr ye' dl ds db dd) : wY_dump_99 post J x1 x2 x3 (nI i) (nI ((q + i) * 6)) (nI N) (nI D) ck sa (nI T) (n + 1) (nI 6) yl yr ye dl ds db dd := by
  have z6 : (6 : Int32) ≤ nI 6 := nI_le (a := 6) (b := 6) (by omega) (by omega)
  by_cases c : N ≤ i
  · exact br_t z6 (br_t (nI_le c (by omega)) (nm_r (nI_1 i) (hJ ye ⟨fun p _ => rfl, fun w => absurd w (by omega)⟩)))
  · have hc : ¬ nI N ≤ nI i := nI_ge (by omega) (by omega)
    have v0 : vp_in (nI i * 5) 80 := dl_v (dl_e5 i) (by omega) (by omega)
    have v1 : vp_in (nI i * 5 + 1) 80 := dl_v (dl_e5p i 1) (by omega) (by omega)
    have v2 : vp_in (nI i * 5 + 2) 80 := dl_v (dl_e5p i 2) (by omega) (by omega)
    have v3 : vp_in (nI i * 5 + 3) 80 := dl_v (dl_e5p i 3) (by omega) (by omega)
    have v4 : vp_in (nI i * 5 + 4) 80 := dl_v (dl_e5p i 4) (by omega) (by omega)
    have w0 : vp_in (nI ((q + i) * 6)) 768 := vp_in_nI (by omega) (by omega)
    have w1 : vp_in (nI ((q + i) * 6) + 1) 768 := dl_v (nI_add _ 1) (by omega) (by omega)
    have w2 : vp_in (nI ((q + i) * 6) + 2) 768 := dl_v (nI_add _ 2) (by omega) (by omega)
    have w3 : vp_in (nI ((q + i) * 6) + 3) 768 := dl_v (nI_add _ 3) (by omega) (by omega)
    have w4 : vp_in (nI ((q + i) * 6) + 4) 768 := dl_v (nI_add _ 4) (by omega) (by omega)
    have w5 : vp_in (nI ((q + i) * 6) + 5) 768 := dl_v (nI_add _ 5) (by omega) (by omega)
    refine br_t z6 (br_f hc ⟨v0, w0, nm_r (dl_u rfl (by omega) (dl_c yl (dl_e5 i) (by omega))) ⟨v1, w1, nm_r (dl_u (nI_add _ 1) (by omega) (dl_c yl (dl_e5p i 1) (by omega))) ⟨v2, w2, nm_r (dl_u (nI_add _ 2) (by omega) (dl_c yl (dl_e5p i 2) (by omega))) ?_⟩⟩⟩)
    have no : ¬ dl_nw (fun j => yl (j * 5)) (fun j => yl (j * 5 + 4)) x2 i → J (nI (i + 1)) yl yr (upd (upd (upd ye ((q + i) * 6) (yl (i * 5))) ((q + i) * 6 + 1) (yl (i * 5 + 1))) ((q + i) * 6 + 2) (yl (i * 5 + 2))) dl ds db dd := by
      intro nn
      refine hJ _ ⟨?_, ?_⟩
      · intro p hp
        rw [pk_un (by omega), pk_un (by omega), pk_un (by omega)]
      · intro _
        refine ⟨?_, ?_, pk_us, fun w => absurd w nn, fun _ => ⟨?_, ?_, ?_⟩⟩
        · rw [pk_un (by omega), pk_un (by omega), pk_us]
        · rw [pk_un (by omega), pk_us]
        · rw [pk_un (by omega), pk_un (by omega), pk_un (by omega)]; exact h6 _ (by omega) (by omega)
        · rw [pk_un (by omega), pk_un (by omega), pk_un (by omega)]; exact h6 _ (by omega) (by omega)
        · rw [pk_un (by omega), pk_un (by omega), pk_un (by omega)]; exact h6 _ (by omega) (by omega)
    by_cases i0 : i = 0
    · refine br_t (congrArg nI i0) (nm_r (nI_1 i) (no ?_))
      intro w
      exact absurd w.1 (by omega)
    · refine br_f (nI_ne0 (by omega) (by omega)) ⟨v0, ?_⟩
      by_cases k0 : yl (i * 5) = 0
      · exact br_t ((dl_c yl (dl_e5 i) (by omega)).trans k0) (nm_r (nI_1 i) (no fun w => w.2.1 k0))
      · refine br_f (fun z => k0 ((dl_c yl (dl_e5 i) (by omega)).symm.trans z)) ⟨v4, ?_⟩
        have c4 : yl (nI i * 5 + 4).toNatClampNeg = yl (i * 5 + 4) := dl_c yl (dl_e5p i 4) (by omega)
        rw [c4]
        by_cases s4 : yl (i * 5 + 4) ≤ x2
        · exact br_t s4 (nm_r (nI_1 i) (no fun w => w.2.2 s4))
        · refine br_f s4 ⟨v3, w3, nm_r (dl_u (nI_add _ 3) (by omega) (dl_c yl (dl_e5p i 3) (by omega))) ⟨v4, w4, nm_r (dl_u (nI_add _ 4) (by omega) rfl) ⟨w5, nm_r (dl_u (nI_add _ 5) (by omega) rfl) (nm_r (nI_1 i) (hJ _ ⟨?_, ?_⟩))⟩⟩⟩
          · intro p hp
            rw [pk_un (by omega), pk_un (by omega), pk_un (by omega), pk_un (by omega), pk_un (by omega), pk_un (by omega)]
          · intro _
            refine ⟨?_, ?_, ?_, fun _ => ⟨?_, ?_, pk_us⟩, fun w => absurd ⟨by omega, k0, s4⟩ w⟩
            · rw [pk_un (by omega), pk_un (by omega), pk_un (by omega), pk_un (by omega), pk_un (by omega), pk_us]
            · rw [pk_un (by omega), pk_un (by omega), pk_un (by omega), pk_un (by omega), pk_us]
            · rw [pk_un (by omega), pk_un (by omega), pk_un (by omega), pk_us]
            · rw [pk_un (by omega), pk_un (by omega), pk_us]
            · rw [pk_un (by omega), pk_us]
theorem y9_a {i q : Nat} (hN : N ≤ 16) (hi : i < 16) (hq : q ≤ 112) (hJ : ∀ ye', dl_Z N q i yl x2 ye ye' → J (nI (i + 1)) yl yr ye' dl ds db dd) : ∃ n, wY_dump_99 post J x1 x2 x3 (nI i) (nI ((q + i) * 6)) (nI N) (nI D) ck sa (nI T) n 0 yl yr ye dl ds db dd := by
  have hr : (q + i) * 6 ≤ 762 := by omega
  refine ⟨7, y9_s (f := 0) hr (by omega) (y9_s (f := 1) hr (by omega) (y9_s (f := 2) hr (by omega) (y9_s (f := 3) hr (by omega) (y9_s (f := 4) hr (by omega) (y9_s (f := 5) hr (by omega) (y9_e hN hi hq ?_ ?_))))))⟩
  · intro p h1 h2
    have h : p = (q + i) * 6 + 0 ∨ p = (q + i) * 6 + 1 ∨ p = (q + i) * 6 + 2 ∨ p = (q + i) * 6 + 3 ∨ p = (q + i) * 6 + 4 ∨ p = (q + i) * 6 + 5 := by omega
    rcases h with rfl | rfl | rfl | rfl | rfl | rfl
    · rw [pk_un (by omega), pk_un (by omega), pk_un (by omega), pk_un (by omega), pk_un (by omega), pk_us]
    · rw [pk_un (by omega), pk_un (by omega), pk_un (by omega), pk_un (by omega), pk_us]
    · rw [pk_un (by omega), pk_un (by omega), pk_un (by omega), pk_us]
    · rw [pk_un (by omega), pk_un (by omega), pk_us]
    · rw [pk_un (by omega), pk_us]
    · rw [pk_us]
  · intro ye' h
    refine hJ ye' ⟨fun p hp => ?_, h.2⟩
    rw [h.1 p hp, pk_un (by omega), pk_un (by omega), pk_un (by omega), pk_un (by omega), pk_un (by omega), pk_un (by omega)]
end
section
variable {N D T : Nat} {ck sa : Int32} {yl yr ye dl ds db dd : Nat → Int32} {post : Int32 → SY → Prop} {l : Nat} {b : Int32}
theorem y7_l (hN : N ≤ 16) (hT : T < 8) (hl : l < 10) (hp : ∀ ye', (∀ m, m < N → dl_Q1 (T * 16) yl b ye' m) → (∀ p, p < T * 16 * 6 → ye' p = ye p) → post (nI T) (nI N, nI D, ck, sa, nI (T + 1), yl, yr, ye', upd dl T (nI l), upd ds T ck, upd db T b, upd dd l ck)) : ∀ (n i : Nat) (ye' : Nat → Int32), i + n = 16 → (∀ m, m < i → m < N → dl_Q1 (T * 16) yl b ye' m) → (∀ p, p < T * 16 * 6 → ye' p = ye p) → wY_dump_77 post (nI l) b (nI T) (nI N) (nI D) ck sa (nI T) (n + 1) (nI i) yl yr ye' dl ds db dd := by
  intro n
  induction n with
  | zero =>
    intro i ye' hi h1 h2
    have hv : vp_in (nI T) 8 := vp_in_nI (by omega) (by omega)
    have hw : vp_in (nI l) 10 := vp_in_nI (by omega) (by omega)
    exact br_t (nI_le (a := 16) (by omega) (by omega)) ⟨hv, nm_r (dl_u rfl (by omega) rfl) ⟨hv, nm_r (dl_u rfl (by omega) rfl) ⟨hv, nm_r (dl_u rfl (by omega) rfl) (nm_r (nI_1 T) ⟨hw, nm_r (dl_u rfl (by omega) rfl) (hp ye' (fun m hm => h1 m (by omega) hm) h2)⟩)⟩⟩⟩
  | succ n ih =>
    intro i ye' hi h1 h2
    refine br_f (nI_ge (b := 16) (by omega) (by decide)) (nm_r (dl_e6 T i) ?_)
    refine y9_a hN (by omega) (by omega) ?_
    intro ye2 h
    refine ih (i + 1) ye2 (by omega) ?_ ?_
    · intro m hm hmN
      by_cases z : m = i
      · subst z
        exact h.2 hmN
      · have g := h1 m (by omega) hmN
        have s : ∀ w, w < 6 → ye2 ((T * 16 + m) * 6 + w) = ye' ((T * 16 + m) * 6 + w) := fun w hw => h.1 _ (by omega)
        unfold dl_Q1
        rw [s 1 (by omega), s 2 (by omega), s 3 (by omega), s 4 (by omega), s 5 (by omega), show ye2 ((T * 16 + m) * 6) = ye' ((T * 16 + m) * 6) from s 0 (by omega)]
        exact g
    · intro p hp
      rw [h.1 p (by omega)]
      exact h2 p hp
theorem y7_a (hN : N ≤ 16) (hT : T < 8) (hl : l < 10) (hp : ∀ ye', (∀ m, m < N → dl_Q1 (T * 16) yl b ye' m) → (∀ p, p < T * 16 * 6 → ye' p = ye p) → post (nI T) (nI N, nI D, ck, sa, nI (T + 1), yl, yr, ye', upd dl T (nI l), upd ds T ck, upd db T b, upd dd l ck)) : ∃ n, wY_dump_77 post (nI l) b (nI T) (nI N) (nI D) ck sa (nI T) n 0 yl yr ye dl ds db dd :=
  ⟨17, y7_l hN hT hl hp 16 0 ye (by omega) (fun m hm => absurd hm (by omega)) (fun p _ => rfl)⟩
end
/-! dump: both -/
theorem dl_Enew {N T : Nat} {b : Int32} {lk lp ln lc ls dc ek ep en ec es eg ek' ep' en' ec' es' eg' yl ye ye' : Nat → Int32} (hN : N ≤ 16) (HL : dl_L N lk lp ln lc ls yl) (HE : dl_E N T dc ek ep en ec es eg ye) (hS : dl_S (T * 16) N lk lp ln lc ls b ek ep en ec es eg ek' ep' en' ec' es' eg') (hQ : ∀ m, m < N → dl_Q1 (T * 16) yl b ye' m) (hO : ∀ p, p < T * 16 * 6 → ye' p = ye p) : dl_E N (T + 1) (upd dc T (dl_ct eg' (T * 16) N)) ek' ep' en' ec' es' eg' ye' := by
  refine ⟨?_, ?_⟩
  · intro d hd
    by_cases z : d = T
    · subst z
      refine ⟨pk_us, ?_⟩
      intro i hi
      obtain ⟨a0, a1, a2, a3, a4⟩ := hS.1 i hi
      obtain ⟨b0, b1, b2, b3, b4⟩ := hQ i hi
      obtain ⟨c0, c1, c2, c3, c4⟩ := HL i hi
      have nn : dl_nw lk ls b i ↔ dl_nw (fun j => yl (j * 5)) (fun j => yl (j * 5 + 4)) b i := by
        unfold dl_nw
        try dsimp only
        rw [c0, c4]
      by_cases w : dl_nw lk ls b i
      · obtain ⟨x3, x4, x5⟩ := a3 w
        obtain ⟨y3, y4, y5⟩ := b3 (nn.mp w)
        exact ⟨by rw [b0, a0, c0], by rw [b1, a1, c1], by rw [b2, a2, c2], by rw [y3, x3, c3], by rw [y4, x4, c4], by rw [y5, x5], fun q => absurd x5 q⟩
      · obtain ⟨x3, x4, x5⟩ := a4 w
        obtain ⟨y3, y4, y5⟩ := b4 (fun q => w (nn.mpr q))
        exact ⟨by rw [b0, a0, c0], by rw [b1, a1, c1], by rw [b2, a2, c2], by rw [y3, x3], by rw [y4, x4], by rw [y5, x5], fun _ => ⟨x3, x4⟩⟩
    · obtain ⟨g1, g2⟩ := HE.1 d (by omega)
      refine ⟨?_, ?_⟩
      · rw [pk_un z, g1]
        exact dl_ctc N fun i hi => ((hS.2.2 (d * 16 + i) (by omega)).2.2.2.2.2).symm
      · intro i hi
        obtain ⟨a0, a1, a2, a3, a4, a5⟩ := hS.2.2 (d * 16 + i) (by omega)
        have s : ∀ w, w < 6 → ye' ((d * 16 + i) * 6 + w) = ye ((d * 16 + i) * 6 + w) := fun w hw => hO _ (by omega)
        unfold dl_E1
        rw [a0, a1, a2, a3, a4, a5, s 1 (by omega), s 2 (by omega), s 3 (by omega), s 4 (by omega), s 5 (by omega), show ye' ((d * 16 + i) * 6) = ye ((d * 16 + i) * 6) from s 0 (by omega)]
        exact g2 i hi
  · intro p hp
    exact hS.2.1 p (by omega)
section
variable {N D T : Nat} {ck sa : Int32} {yl yr ye dl ds db dd : Nat → Int32} {post : Int32 → SY → Prop} {p : Int32} {l : Nat}
theorem yq_l (h : ¬ dl_In 10 p) (hp : post (-9) (nI N, nI D, ck, sa, nI T, yl, yr, ye, dl, ds, db, dd)) : wpY_dump post (nI N, nI D, ck, sa, nI T, yl, yr, ye, dl, ds, db, dd) p := by
  rcases dl_In_c (by omega) h with a | ⟨a, b⟩
  · exact br_t a hp
  · refine br_f a (br_f ?_ hp)
    intro z
    exact absurd (Int32.le_trans b z) (by decide +kernel)
theorem yq_f (hl : l < 10) (h : ¬ nI T < nI D) (hp : post (-5) (nI N, nI D, ck, sa, nI T, yl, yr, ye, dl, ds, db, dd)) : wpY_dump post (nI N, nI D, ck, sa, nI T, yl, yr, ye, dl, ds, db, dd) (nI l) :=
  br_f (nI_pos (by omega)) (br_t (nI_le (b := 9) (by omega) (by decide)) (br_f h hp))
theorem yq_t (hl : l < 10) (h : nI T < nI D) (hp : ∃ n, wY_dump_41 post (nI l) (nI N) (nI D) (ck + 1) sa (nI T) yl yr ye dl ds db dd n 0 0) : wpY_dump post (nI N, nI D, ck, sa, nI T, yl, yr, ye, dl, ds, db, dd) (nI l) :=
  br_f (nI_pos (by omega)) (br_t (nI_le (b := 9) (by omega) (by decide)) (br_t h (nm_e hp)))
end
theorem i_vc_dump {k : Nat} {u : SX} {v : SY} (I : i_Rel k u v) (hk : k + 4 ≤ 2050) (v1 : Int32) : wpX_dump (fun r u' => wpY_dump (fun r' v' => r' = r ∧ i_Rel (k + 4) u' v') v v1) u v1 := by
  obtain ⟨N, D, T, ck, sa, lk, lp, ln, lc, ls, dl, ds, db, dc, dd, ek, ep, en, ec, es, eg, rk, rp, rn, rc, rs, yl, yr, ye, rfl, rfl, R⟩ := I
  obtain ⟨h4, hN, hD, hT, HL, HT, HE, HR⟩ := id R
  unfold wpX_dump
  by_cases c : dl_In 10 v1
  · obtain ⟨l, hl, rfl⟩ := c
    refine xv_t hl ?_
    refine br_f dl_10 ?_
    by_cases f : T < D
    · have ht : nI T < nI D := nI_lt f (by omega)
      have hv : vp_in (nI T) 8 := vp_in_nI (by omega) (by omega)
      have hw : vp_in (nI l) 10 := vp_in_nI (by omega) (by omega)
      refine br_t ht (nm_e ⟨hv, nm_r (dl_u rfl (by omega) rfl) ⟨hv, nm_r (dl_u rfl (by omega) rfl) ?_⟩⟩)
      refine xm_a (by omega) ?_
      refine ⟨hv, nm_r (dl_u rfl (by omega) rfl) ?_⟩
      refine xr_a hN (by omega) HE.2 ?_
      intro ek' ep' en' ec' es' eg' hS
      rw [pk_us] at hS
      refine ⟨hv, nm_r (dl_u rfl (by omega) rfl) ⟨hw, nm_r (dl_u rfl (by omega) rfl) (nm_r (nI_1 T) ?_)⟩⟩
      refine yq_t hl ht (ym_a (by omega) (y7_a hN (by omega) hl ?_))
      intro ye' hQ hO
      exact ⟨rfl, dl_mk ⟨h4, hN, hD, f, HL, HT, dl_Enew hN HL HE hS hQ hO, HR⟩⟩
    · have ht : ¬ nI T < nI D := nI_nlt (by omega) (by omega)
      exact br_f ht (yq_f hl ht ⟨rfl, dl_mk R⟩)
  · refine xv_f c ?_
    exact br_t rfl (yq_l c ⟨rfl, dl_mk R⟩)
