/-! LAYER 3: what both readers do: a state is a fault's kind (0: none) and a place -/
section SPC
def xp (t : Nat → Int32) (N k : Nat) (o : Nat × Nat) : Nat × Nat := if o.1 = 0 then (if tk t N o.2 = k then (0, nx t N o.2) else (1, o.2)) else o
def nmk (t : Nat → Int32) (N lo hx : Nat) (o : Nat × Nat) : Prop := o.1 = 0 ∧ tk t N o.2 = 2 ∧ lo ≤ va t N o.2 ∧ va t N o.2 < hx
def nmv (t : Nat → Int32) (N lo hx : Nat) (o : Nat × Nat) : Nat := if o.1 = 0 ∧ tk t N o.2 = 2 ∧ lo ≤ va t N o.2 ∧ va t N o.2 < hx then va t N o.2 else lo
def nmo (t : Nat → Int32) (N lo hx : Nat) (o : Nat × Nat) : Nat × Nat := if o.1 = 0 then (if tk t N o.2 = 2 then (if lo ≤ va t N o.2 ∧ va t N o.2 < hx then (0, nx t N o.2) else (2, o.2)) else (1, o.2)) else o
def flo (k : Nat) (o : Nat × Nat) : Nat × Nat := if o.1 = 0 then (k, o.2) else o
def hs (H : HD) (j v : Nat) : HD := (fun i => if i = j then v else H.1 i, H.2)
def ha (H : HD) (a k v : Nat) : HD := (H.1, fun b i => if b = a ∧ i = k then v else H.2 b i)
variable (t : Nat → Int32) (N : Nat)
def hdA (o : Nat × Nat) : Nat × Nat := xp t N 5 (xp t N 4 o)
def hdB (o : Nat × Nat) : Nat × Nat := xp t N 6 (nmo t N 0 4 (hdA t N o))
def hdC (o : Nat × Nat) : Nat × Nat := xp t N 7 (nmo t N 0 11 (hdB t N o))
def hdO (o : Nat × Nat) : Nat × Nat := nmo t N 1 31 (hdC t N o)
def hdH (o : Nat × Nat) (H : HD) : HD := hs (hs (hs H 1 (nmv t N 0 4 (hdA t N o))) 2 (nmv t N 0 11 (hdB t N o))) 3 (nmv t N 1 31 (hdC t N o))
def rmA (o : Nat × Nat) : Nat × Nat := xp t N 9 (xp t N 8 o)
def rmB (o : Nat × Nat) : Nat × Nat := xp t N 10 (nmo t N 1 8 (rmA t N o))
def rmO (o : Nat × Nat) : Nat × Nat := nmo t N 0 100 (rmB t N o)
def rmH (o : Nat × Nat) (H : HD) : HD := hs (ha H 0 (H.1 4) (nmv t N 1 8 (rmA t N o))) 4 (H.1 4 + 1)
def rmW (o : Nat × Nat) (H : HD) (W : Nat → Nat) : Nat → Nat := fun r => if r = H.1 4 then nmv t N 0 100 (rmB t N o) else W r
def wyA (R : Nat) (o : Nat × Nat) : Nat × Nat := nmo t N 0 R (xp t N 11 o)
def wy1 (R : Nat) (o : Nat × Nat) : Nat := nmv t N 0 R (xp t N 11 o)
def wyB (R : Nat) (o : Nat × Nat) : Nat × Nat := if tk t N (wyA t N R o).2 = 2 ∧ va t N (wyA t N R o).2 = wy1 t N R o then flo 2 (wyA t N R o) else wyA t N R o
def wyO (R : Nat) (o : Nat × Nat) : Nat × Nat := nmo t N 0 R (wyB t N R o)
def wyH (o : Nat × Nat) (H : HD) : HD := hs (ha (ha H 4 (H.1 5) (wy1 t N (H.1 4) o)) 5 (H.1 5) (nmv t N 0 (H.1 4) (wyB t N (H.1 4) o))) 5 (H.1 5 + 1)
def vsA (o : Nat × Nat) : Nat × Nat := xp t N 13 (xp t N 12 o)
def vsB (R : Nat) (o : Nat × Nat) : Nat × Nat := xp t N 14 (nmo t N 0 R (vsA t N o))
def vsO (R : Nat) (o : Nat × Nat) : Nat × Nat := nmo t N 0 30 (vsB t N R o)
def vsH (o : Nat × Nat) (H : HD) : HD := hs (ha (ha H 1 (H.1 6) (nmv t N 0 (H.1 4) (vsA t N o))) 2 (H.1 6) (nmv t N 0 30 (vsB t N (H.1 4) o))) 6 (H.1 6 + 1)
def plq (s : (Nat × Nat) × HD) : (Nat × Nat) × HD := if s.2.1 7 < 12 then (nmo t N 0 (s.2.1 4) s.1, hs (ha s.2 3 (s.2.1 7) (nmv t N 0 (s.2.1 4) s.1)) 7 (s.2.1 7 + 1)) else (flo (if va t N s.1.2 < s.2.1 4 then 3 else 2) s.1, s.2)
def rds : Nat → (Nat × Nat) × HD → (Nat × Nat) × HD
  | 0, s => s
  | k + 1, s => if s.1.1 = 0 ∧ tk t N s.1.2 = 2 then rds k (plq t N s) else s
def rdS (o : Nat × Nat) (H : HD) : (Nat × Nat) × HD := rds t N 13 (plq t N (xp t N 15 o, H))
/-- a line: where it leads, what it adds -/
def lnO (p : Nat) (H : HD) : Nat × Nat := if H.1 0 = 0 then (if tk t N p = 4 then xp t N 3 (hdO t N (0, p)) else (1, p))
  else if tk t N p = 8 then (if H.1 4 < 4 then xp t N 3 (rmO t N (0, p)) else (3, p))
  else if tk t N p = 11 then (if H.1 5 < 6 then xp t N 3 (wyO t N (H.1 4) (0, p)) else (3, p))
  else if tk t N p = 12 then (if H.1 6 < 5 then xp t N 3 (vsO t N (H.1 4) (0, p)) else (3, p))
  else if tk t N p = 15 then (if H.1 7 = 0 then xp t N 3 (rdS t N (0, p) H).1 else (3, p))
  else (1, p)
def lnH0 (p : Nat) (H : HD) : HD := if H.1 0 = 0 then hdH t N (0, p) H
  else if tk t N p = 8 then rmH t N (0, p) H
  else if tk t N p = 11 then wyH t N (0, p) H
  else if tk t N p = 12 then vsH t N (0, p) H
  else (rdS t N (0, p) H).2
def lnH (p : Nat) (H : HD) : HD := hs (lnH0 t N p H) 0 (H.1 0 + 1)
def lnW (p : Nat) (H : HD) (W : Nat → Nat) : Nat → Nat := if H.1 0 = 0 then W else if tk t N p = 8 then rmW t N (0, p) H W else W
/-- all lines -/
def lns : Nat → (Nat × Nat) × HD × (Nat → Nat) → (Nat × Nat) × HD × (Nat → Nat)
  | 0, s => s
  | k + 1, s => if s.1.1 = 0 ∧ tk t N s.1.2 ≠ 0 then lns k (lnO t N s.1.2 s.2.1, lnH t N s.1.2 s.2.1, lnW t N s.1.2 s.2.1 s.2.2) else s
end SPC
section SPL
variable {t : Nat → Int32} {N : Nat}
theorem xp_f {k : Nat} {o : Nat × Nat} (h : o.1 ≠ 0) : xp t N k o = o := by unfold xp; rw [if_neg h]
theorem xp_g {k p : Nat} (h : tk t N p = k) : xp t N k (0, p) = (0, nx t N p) := by unfold xp; rw [if_pos rfl, if_pos h]
theorem nmo_f {lo hx : Nat} {o : Nat × Nat} (h : o.1 ≠ 0) : nmo t N lo hx o = o := by unfold nmo; rw [if_neg h]
theorem xp_le {k : Nat} {o : Nat × Nat} (h : o.2 ≤ N) : o.2 ≤ (xp t N k o).2 ∧ (xp t N k o).2 ≤ N := by
  unfold xp
  have := nx_le (t := t) h
  split
  · split
    · exact this
    · exact ⟨Nat.le_refl _, h⟩
  · exact ⟨Nat.le_refl _, h⟩
theorem nmo_le {lo hx : Nat} {o : Nat × Nat} (h : o.2 ≤ N) : o.2 ≤ (nmo t N lo hx o).2 ∧ (nmo t N lo hx o).2 ≤ N := by
  unfold nmo
  have := nx_le (t := t) h
  split
  · split
    · split
      · exact this
      · exact ⟨Nat.le_refl _, h⟩
    · exact ⟨Nat.le_refl _, h⟩
  · exact ⟨Nat.le_refl _, h⟩
theorem flo_2 {k : Nat} {o : Nat × Nat} : (flo k o).2 = o.2 := by unfold flo; split <;> rfl
theorem xp_1 {k : Nat} {o : Nat × Nat} (h : (xp t N k o).1 = 0) : o.1 = 0 := by
  by_cases e : o.1 = 0
  · exact e
  · rw [xp_f e] at h; exact h
theorem nmo_1 {lo hx : Nat} {o : Nat × Nat} (h : (nmo t N lo hx o).1 = 0) : o.1 = 0 ∧ tk t N o.2 = 2 ∧ lo ≤ va t N o.2 ∧ va t N o.2 < hx := by
  unfold nmo at h
  by_cases e : o.1 = 0
  · rw [if_pos e] at h
    by_cases e2 : tk t N o.2 = 2
    · rw [if_pos e2] at h
      by_cases e3 : lo ≤ va t N o.2 ∧ va t N o.2 < hx
      · exact ⟨e, e2, e3⟩
      · rw [if_neg e3] at h; exact absurd h (show ¬ (2 : Nat) = 0 by omega)
    · rw [if_neg e2] at h; exact absurd h (show ¬ (1 : Nat) = 0 by omega)
  · rw [if_neg e] at h; exact absurd h e
theorem nmv_b {lo hx : Nat} {o : Nat × Nat} (h : lo < hx) : lo ≤ nmv t N lo hx o ∧ nmv t N lo hx o < hx := by
  unfold nmv
  split
  · rename_i q; exact q.2.2
  · omega
theorem nmv_1 {lo hx : Nat} {o : Nat × Nat} (h : (nmo t N lo hx o).1 = 0) : lo ≤ nmv t N lo hx o ∧ nmv t N lo hx o < hx := by
  have := nmo_1 h
  unfold nmv
  rw [if_pos this]; exact this.2.2
theorem dmk_cg {H H' : HD} {r : Nat} : ∀ {k : Nat}, (∀ i, i < k → H.2 4 i = H'.2 4 i ∧ H.2 5 i = H'.2 5 i) → dmk H k r = dmk H' k r
  | 0, _ => rfl
  | k + 1, h => by
    have h1 := h k (by omega)
    unfold dmk
    rw [dmk_cg (fun i hi => h i (by omega)), h1.1, h1.2]
theorem hs_2 {H : HD} {j v : Nat} : (hs H j v).2 = H.2 := rfl
theorem hs_s {H : HD} {j v : Nat} : (hs H j v).1 j = v := if_pos rfl
theorem hs_o {H : HD} {j v i : Nat} (h : i ≠ j) : (hs H j v).1 i = H.1 i := if_neg h
theorem ha_1 {H : HD} {a k v : Nat} : (ha H a k v).1 = H.1 := rfl
theorem ha_s {H : HD} {a k v : Nat} : (ha H a k v).2 a k = v := if_pos ⟨rfl, rfl⟩
theorem ha_o {H : HD} {a k v b i : Nat} (h : b ≠ a ∨ i ≠ k) : (ha H a k v).2 b i = H.2 b i := if_neg (fun q => by omega)
theorem dms_hs {H : HD} {j v r : Nat} (h : j ≠ 5) : dms (hs H j v) r = dms H r := by
  unfold dms
  rw [hs_o (Ne.symm h)]
  exact dmk_cg (fun i _ => ⟨rfl, rfl⟩)
theorem dms_ha {H : HD} {a k v r : Nat} (h : a ≠ 4 ∧ a ≠ 5) : dms (ha H a k v) r = dms H r := by
  unfold dms
  rw [ha_1]
  exact dmk_cg (fun i _ => ⟨ha_o (Or.inl (Ne.symm h.1)), ha_o (Or.inl (Ne.symm h.2))⟩)
end SPL
section RDC
variable {I : FI} {L : FL} {t : Nat → Int32} {N J n : Nat} {o : Nat × Nat} {H : HD} {W : Nat → Nat}
/-- the class's reader at a state -/
def CQ (t : Nat → Int32) (N J : Nat) (I : FI) (o : Nat × Nat) : Prop := N ≤ 500 ∧ ARR t N J I ∧ (∃ j, j ≤ J ∧ I 14 6 = nI j ∧ (o.1 = 0 → tP t N j = o.2)) ∧ I 14 1 = nI o.1 ∧ o.1 ≤ 3 ∧ (o.1 ≠ 0 → I 14 2 = nI o.2) ∧ (o.1 = 0 → I 14 2 = -1) ∧ o.2 ≤ N
theorem ARR_fr {K : FI} (h : ARR t N J I) (e : ∀ c i, (c = 23 ∨ c = 24 ∨ c = 25) → K c i = I c i) : ARR t N J K := ⟨h.1, h.2.1, fun i hi => by rw [e 24 i (by omega), e 23 i (by omega), e 25 i (by omega)]; exact h.2.2 i hi⟩
theorem CQ_fr {K : FI} (h : CQ t N J I o) (e : ∀ c i, (c = 14 ∨ c = 23 ∨ c = 24 ∨ c = 25) → K c i = I c i) : CQ t N J K o := by
  obtain ⟨h0, h1, ⟨j, h2, h3, h4⟩, h5, h6, h7, h8, h9⟩ := h
  exact ⟨h0, ARR_fr h1 (fun c i hc => e c i (by omega)), ⟨j, h2, by rw [e 14 6 (by omega)]; exact h3, h4⟩, by rw [e 14 1 (by omega)]; exact h5, h6, fun q => by rw [e 14 2 (by omega)]; exact h7 q, fun q => by rw [e 14 2 (by omega)]; exact h8 q, h9⟩
theorem e85 (h : CQ t N J I o) {k : Nat} (hk1 : 1 ≤ k) (hk : k ≤ 3) : ∃ A, f_85 (nI k) I L = some (A, L) ∧ CQ t N J A (flo k o) ∧ ∀ c i, c ≠ 14 → A c i = I c i := by
  have h' := h
  obtain ⟨h0, h1, ⟨j, h2, h3, h4⟩, h5, h6, h7, h8, h9⟩ := h
  unfold f_85 flo
  by_cases hz : o.1 = 0
  · have hJ := h1.1
    rw [if_neg (fun q => q (by rw [h5, hz]; rfl)), h3, ku_if (by omega) (by omega), nI_clamp (by omega), if_pos hz, (h1.2.2 j h2).1]
    refine ⟨_, rfl, ⟨h0, ARR_fr h1 (fun c i hc => by rw [u2_c (by omega), u2_c (by omega)]), ⟨j, h2, by rw [u2_o (by decide), u2_o (by decide)]; exact h3, fun q => by (try dsimp only at q); omega⟩, by rw [u2_o (by decide), u2_s], hk, fun _ => by rw [u2_s, h4 hz], fun q => by (try dsimp only at q); omega, h9⟩, fun c i hc => by rw [u2_c hc, u2_c hc]⟩
  · rw [if_pos (by rw [h5]; exact nI_ne0 (by omega) (by omega)), if_neg hz]
    exact ⟨I, rfl, h', fun _ _ _ => rfl⟩
theorem e84 (h : CQ t N J I o) (hz : o.1 = 0) : ∃ A, f_84 I L = some (A, L) ∧ CQ t N J A (0, nx t N o.2) ∧ ∀ c i, c ≠ 14 → A c i = I c i := by
  have h' := h
  obtain ⟨h0, h1, ⟨j, h2, h3, h4⟩, h5, h6, h7, h8, h9⟩ := h
  have hJ := h1.1
  have hp := h4 hz
  have hsame : o.2 = N → CQ t N J I (0, nx t N o.2) := fun e => by
    rw [e, nx_n]
    exact ⟨h0, h1, ⟨j, h2, h3, fun _ => by rw [hp]; exact e⟩, by rw [h5, hz], by omega, fun q => absurd rfl q, fun _ => h8 hz, Nat.le_refl _⟩
  unfold f_84
  rw [h3]
  by_cases h5j : j = 500
  · rw [if_pos (by rw [h5j]; decide)]
    have hjJ : j = J := by omega
    have := h1.2.1
    rw [← hjJ, hp] at this
    exact ⟨I, rfl, hsame this, fun _ _ _ => rfl⟩
  · rw [show (500 : Int32) = nI 500 from rfl, if_neg (nI_ge (by omega) (by omega)), ku_if (by omega) (by omega), nI_clamp (by omega), (h1.2.2 j h2).2.1, hp]
    have h15 := tk_le (t := t) (n := N) (p := o.2)
    by_cases hk : tk t N o.2 = 0
    · rw [if_pos (by rw [hk]; rfl)]
      have := tk_0.mp hk
      exact ⟨I, rfl, hsame (by omega), fun _ _ _ => rfl⟩
    · rw [if_neg (nI_ne0 (by omega) (by omega)), nI_1]
      have hjJ : j < J := by
        rcases Nat.lt_or_ge j J with q | q
        · exact q
        · exfalso
          have e : j = J := by omega
          have := h1.2.1
          rw [← e, hp] at this
          exact hk (tk_0.mpr (by omega))
      exact ⟨_, rfl, ⟨h0, ARR_fr h1 (fun c i hc => by rw [u2_c (by omega)]), ⟨j + 1, hjJ, u2_s, fun _ => by show nx t N (tP t N j) = _; rw [hp]⟩, by rw [u2_o (by decide), h5, hz], by omega, fun q => absurd rfl q, fun _ => by rw [u2_o (by decide)]; exact h8 hz, (nx_le h9).2⟩, fun c i hc => u2_c hc⟩
/-- where the reader stands -/
theorem CQ_at (h : CQ t N J I o) : ∃ j, j ≤ 500 ∧ I 14 6 = nI j ∧ (o.1 = 0 → I 23 j = nI (tk t N o.2) ∧ I 25 j = nI (va t N o.2)) := by
  obtain ⟨h0, h1, ⟨j, h2, h3, h4⟩, h5, h6, h7, h8, h9⟩ := h
  have hJ := h1.1
  exact ⟨j, by omega, h3, fun hz => by rw [← h4 hz]; exact (h1.2.2 j h2).2⟩
theorem CQ_f (h : CQ t N J I o) : I 14 1 = nI o.1 ∧ o.1 ≤ 3 := ⟨h.2.2.2.1, h.2.2.2.2.1⟩
theorem flo_f {k : Nat} (h : o.1 ≠ 0) : flo k o = o := by unfold flo; rw [if_neg h]
theorem e83 (h : CQ t N J I o) {k : Nat} (hk : k ≤ 15) : ∃ A, f_83 (nI k) I L = some (A, L) ∧ CQ t N J A (xp t N k o) ∧ ∀ c i, c ≠ 14 → A c i = I c i := by
  obtain ⟨j, j1, j2, j3⟩ := CQ_at h
  obtain ⟨f1, f2⟩ := CQ_f h
  have h15 := tk_le (t := t) (n := N) (p := o.2)
  unfold f_83
  rw [j2, ku_if (by omega) (by omega), nI_clamp (by omega)]
  by_cases hz : o.1 = 0
  · obtain ⟨a1, a2⟩ := j3 hz
    rw [a1]
    unfold xp
    rw [if_pos hz]
    by_cases e : tk t N o.2 = k
    · rw [if_pos (by rw [e]), if_pos e]
      unfold c_83_0
      rw [f1, if_neg (fun q => q (by rw [hz]; rfl))]
      obtain ⟨A, b1, b2, b3⟩ := e84 (L := L) h hz
      exact ⟨A, by rw [b1, q_bs], b2, b3⟩
    · rw [if_neg (by rw [nI_eq (by omega) (by omega)]; exact e), if_neg e]
      obtain ⟨A, b1, b2, b3⟩ := e85 (L := L) h (k := 1) (by omega) (by omega)
      have b4 := (CQ_f b2).1
      unfold flo at b2 b4
      rw [if_pos hz] at b2 b4
      refine ⟨A, ?_, b2, b3⟩
      rw [show f_85 1 I L = some (A, L) from b1, q_bs]
      unfold c_83_0
      (try dsimp only)
      rw [if_pos (show ¬ A 14 1 = 0 from by rw [b4]; show ¬ nI 1 = 0; decide)]
  · rw [xp_f hz]
    have hc : ∀ A : FI, A 14 1 = nI o.1 → c_83_0 A L = some (A, L) := fun A hA => by
      unfold c_83_0
      rw [if_pos (by rw [hA]; exact nI_ne0 (by omega) (by omega))]
    by_cases e : I 23 j = nI k
    · rw [if_pos e, hc I f1]
      exact ⟨I, rfl, h, fun _ _ _ => rfl⟩
    · rw [if_neg e]
      obtain ⟨A, b1, b2, b3⟩ := e85 (L := L) h (k := 1) (by omega) (by omega)
      rw [flo_f hz] at b2
      refine ⟨A, ?_, b2, b3⟩
      rw [show f_85 1 I L = some (A, L) from b1, q_bs]
      exact hc A (CQ_f b2).1
theorem va_le : va t N o.2 ≤ 1000000 := by
  unfold va
  split
  · exact vl_le _
  · omega
theorem e82 (h : CQ t N J I o) {lo hx : Nat} (hlo : lo ≤ 1) (hh : hx ≤ 100) : ∃ A, f_82 (nI lo) (oI hx) I L = some (nI (nmv t N lo hx o), A, L) ∧ CQ t N J A (nmo t N lo hx o) ∧ ∀ c i, c ≠ 14 → A c i = I c i := by
  obtain ⟨j, j1, j2, j3⟩ := CQ_at h
  obtain ⟨f1, f2⟩ := CQ_f h
  have h15 := tk_le (t := t) (n := N) (p := o.2)
  have hva := va_le (t := t) (N := N) (o := o)
  unfold f_82
  rw [j2, ku_if (by omega) (by omega), ku_if (by omega) (by omega), nI_clamp (by omega)]
  by_cases hz : o.1 = 0
  · obtain ⟨a1, a2⟩ := j3 hz
    rw [a1, a2]
    unfold nmv nmo
    rw [if_pos hz]
    have bad : ∀ k x, 1 ≤ k → k ≤ 3 → ∃ A, ((f_85 (nI k) I L).bind fun q0 => c_82_1 (nI lo) x q0.1 q0.2) = some (nI lo, A, L) ∧ CQ t N J A (k, o.2) ∧ ∀ c i, c ≠ 14 → A c i = I c i := fun k x k1 k2 => by
      obtain ⟨A, b1, b2, b3⟩ := e85 (L := L) h k1 k2
      have b4 := (CQ_f b2).1
      unfold flo at b2 b4
      rw [if_pos hz] at b2 b4
      refine ⟨A, ?_, b2, b3⟩
      rw [b1, q_bs]
      unfold c_82_1
      (try dsimp only)
      rw [if_neg (show ¬ A 14 1 = 0 from by rw [b4]; exact nI_ne0 (n := k) (by omega) (by omega))]
    by_cases e : tk t N o.2 = 2
    · rw [if_pos (by rw [e]; rfl), if_pos e]
      have g1 : nI (va t N o.2) < nI lo ↔ va t N o.2 < lo := by rw [fa_lt, nI_toInt (by omega), nI_toInt (by omega)]; omega
      have g2 : nI (va t N o.2) ≤ oI hx ↔ va t N o.2 < hx := by rw [fa_le, nI_toInt (by omega), oI_toInt (by omega)]; omega
      by_cases l1 : va t N o.2 < lo
      · rw [if_pos (g1.mpr l1), if_neg (fun q => by omega), if_neg (fun q => by omega)]
        exact bad 2 _ (by omega) (by omega)
      · rw [if_neg (fun q => l1 (g1.mp q))]
        by_cases l2 : va t N o.2 < hx
        · rw [if_pos (g2.mpr l2), if_pos ⟨hz, e, by omega, l2⟩, if_pos ⟨by omega, l2⟩]
          obtain ⟨A, b1, b2, b3⟩ := e84 (L := L) h hz
          refine ⟨A, ?_, b2, b3⟩
          unfold c_82_1
          rw [f1, if_pos (by rw [hz]; rfl), b1, q_bs]
        · rw [if_neg (fun q => l2 (g2.mp q)), if_neg (fun q => l2 q.2.2.2), if_neg (fun q => l2 q.2)]
          exact bad 2 _ (by omega) (by omega)
    · rw [if_neg (by rw [ku_2, nI_eq (by omega) (by omega)]; exact e), if_neg (fun q => e q.2.1), if_neg e]
      exact bad 1 _ (by omega) (by omega)
  · rw [nmo_f hz]
    have hv : nmv t N lo hx o = lo := by unfold nmv; rw [if_neg (fun q => hz q.1)]
    rw [hv]
    have hc : ∀ (A : FI) x, A 14 1 = nI o.1 → c_82_1 (nI lo) x A L = some (nI lo, A, L) := fun A x hA => by
      unfold c_82_1
      rw [if_neg (by rw [hA]; exact nI_ne0 (by omega) (by omega))]
    have hb : ∀ k x, 1 ≤ k → k ≤ 3 → ((f_85 (nI k) I L).bind fun q0 => c_82_1 (nI lo) x q0.1 q0.2) = some (nI lo, I, L) := fun k x k1 k2 => by
      have : f_85 (nI k) I L = some (I, L) := by
        unfold f_85
        rw [if_pos (by rw [f1]; exact nI_ne0 (by omega) (by omega))]
      rw [this, q_bs]
      exact hc I x f1
    refine ⟨I, ?_, h, fun _ _ _ => rfl⟩
    by_cases e : I 23 j = 2
    · rw [if_pos e]
      by_cases l1 : I 25 j < nI lo
      · rw [if_pos l1]; exact hb 2 _ (by omega) (by omega)
      · rw [if_neg l1]
        by_cases l2 : I 25 j ≤ oI hx
        · rw [if_pos l2]; exact hc I _ f1
        · rw [if_neg l2]; exact hb 2 _ (by omega) (by omega)
    · rw [if_neg e]; exact hb 1 _ (by omega) (by omega)
end RDC
