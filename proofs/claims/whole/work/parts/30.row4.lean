/-! ===== a row's TICK as a function of what is seen of cup and row ===== -/
def zrow (c : Cv) (push : Int) (r : Rv) : Int × Rv :=
  ((zpass (cLast c) (cRim c) (cSet c 4) (cSet c 0) (dless (cSet c)) push r.1 r.2.1 (cHole c)).2.2,
   (zpass (cLast c) (cRim c) (cSet c 4) (cSet c 0) (dless (cSet c)) push r.1 r.2.1 (cHole c)).1,
   (zpass (cLast c) (cRim c) (cSet c 4) (cSet c 0) (dless (cSet c)) push r.1 r.2.1 (cHole c)).2.1,
   w32 (r.2.2 + (zpass (cLast c) (cRim c) (cSet c 4) (cSet c 0) (dless (cSet c)) push r.1 r.2.1 (cHole c)).2.2))
section ZC
variable {h f ho : Int → Int} {last rim lid sf less push i : Int}
theorem drv_cut (h1 : last ≤ 19) : drv last sf less push (cut 20 h) (cut 20 f) (cut 20 ho) = cut 20 (drv last sf less push h f ho) := by
  funext j
  show (if 0 ≤ j ∧ j < last then dflow sf less push (cut 20 h) (cut 20 f) (cut 20 ho) j else cut 20 f j) = cut 20 (drv last sf less push h f ho) j
  by_cases e : 0 ≤ j ∧ j < last
  · rw [if_pos e, cut_in (by omega) (by omega)]
    show _ = (if 0 ≤ j ∧ j < last then dflow sf less push h f ho j else f j)
    rw [if_pos e]
    unfold dflow dfl1
    rw [cut_in (f := h) (by omega) (by omega), cut_in (f := f) (by omega) (by omega), cut_in (f := ho) (by omega) (by omega), cut_in (f := h) (by omega) (by omega)]
  · rw [if_neg e]
    by_cases e2 : 0 ≤ j ∧ j < 20
    · rw [cut_in e2.1 e2.2, cut_in e2.1 e2.2]
      show _ = (if 0 ≤ j ∧ j < last then dflow sf less push h f ho j else f j)
      rw [if_neg e]
    · rw [cut_out e2, cut_out e2]
theorem zgoes_cut (h0 : 0 ≤ i) (h1 : i < 19) : zgoes (cut 20 h) (cut 20 f) i = zgoes h f i := by
  unfold zgoes
  rw [cut_in (f := h) (by omega) (by omega), cut_in (f := f) (by omega) (by omega), cut_in (f := h) (by omega) (by omega)]
theorem zmh_cut (h0 : 0 ≤ i) (h1 : i < 19) : zmh (cut 20 h) (cut 20 f) i = cut 20 (zmh h f i) := by
  unfold zmh
  rw [zgoes_cut h0 h1, cut_in (f := h) (by omega) (by omega), cut_in (f := h) (by omega) (by omega), cut_zu (by omega) (by omega), cut_zu (by omega) (by omega)]
theorem zmf_cut (h0 : 0 ≤ i) (h1 : i < 19) : zmf (cut 20 h) (cut 20 f) i = cut 20 (zmf h f i) := by
  unfold zmf
  rw [zgoes_cut h0 h1, cut_in (f := f) (by omega) (by omega)]
  split
  · rfl
  · rw [cut_zu (by omega) (by omega)]
theorem zmv_cut : ∀ n : Nat, n ≤ 19 → zmv n (cut 20 h, cut 20 f) = (cut 20 (zmv n (h, f)).1, cut 20 (zmv n (h, f)).2)
  | 0, _ => rfl
  | n + 1, hn => by
    have ih := zmv_cut n (by omega)
    show (zmh (zmv n (cut 20 h, cut 20 f)).1 (zmv n (cut 20 h, cut 20 f)).2 n, zmf (zmv n (cut 20 h, cut 20 f)).1 (zmv n (cut 20 h, cut 20 f)).2 n) = _
    rw [ih, zmh_cut (by omega) (by omega), zmf_cut (by omega) (by omega)]
    rfl
theorem zov_cut (h0 : 0 ≤ i) (h1 : i < 20) : zov (cut 20 h) rim lid i = zov h rim lid i := by
  unfold zov
  rw [cut_in (f := h) h0 h1]
theorem zoh_cut (h0 : 0 ≤ i) (h1 : i < 20) : zoh (cut 20 h) rim lid i = cut 20 (zoh h rim lid i) := by
  unfold zoh
  rw [zov_cut h0 h1, cut_in (f := h) h0 h1, cut_zu h0 h1]
theorem zpass_cut (l0 : 1 ≤ last) (l1 : last ≤ 19) : zpass last rim lid sf less push (cut 20 h) (cut 20 f) (cut 20 ho) =
    (cut 20 (zpass last rim lid sf less push h f ho).1, cut 20 (zpass last rim lid sf less push h f ho).2.1, (zpass last rim lid sf less push h f ho).2.2) := by
  unfold zpass
  dsimp only
  rw [drv_cut l1, zmv_cut _ (by omega)]
  dsimp only
  rw [zoh_cut (by omega) (by omega), zoh_cut (by omega) (by omega), zov_cut (by omega) (by omega), zov_cut (by omega) (by omega)]
end ZC
section CR
variable {D : DD} {ρ : Rho}
theorem C_rpass {d a c : Nat} {push : Int} (hr : SRow ρ a) (hc : SCup ρ c) (l0 : 1 ≤ D c 0) (l1 : D c 0 ≤ 19) (hd : c + 2 < a ∨ a + 2 < c) :
    Cl (d + 2) 0 0 mX4_pass [vr a, vr c, vi push] (D, ρ) (KI (fun r m => ∃ D', m = (D', ρ) ∧ Fr (fun o _ => a ≤ o ∧ o ≤ a + 2) D D' ∧ (r, rowv D' a) = zrow (cupv D c) push (rowv D a))) := by
  obtain ⟨k0, k1, k2, k3, k4, k5, k6⟩ := hr
  obtain ⟨c0, c1, c2, c3, c4, c5, c6⟩ := hc
  have e1 : mR (D, ρ) a 0 = a + 1 := k1
  have e2 : mR (D, ρ) a 1 = a + 2 := k2
  have e3 : mR (D, ρ) c 3 = c + 1 := c1
  have e4 : mR (D, ρ) c 4 = c + 2 := c2
  refine Cl.weak (KI.weak ?_) (C_pass (a := a) (c := c) (push := push) (μ := (D, ρ)) ⟨k0, by rw [e1]; exact k3, by rw [e2]; exact k4, by rw [e1]; exact k5, by rw [e2]; exact k6, by rw [e1, e2]; omega⟩
    ⟨c0, by rw [e3]; exact c3, by rw [e3]; exact c5, by rw [e4]; exact c4, by rw [e4]; exact c6, l0, l1⟩ (by rw [e3, e1]; omega) (by rw [e3, e2]; omega) (by rw [e4, e2]; omega))
  rintro r m ⟨h1, h2⟩
  rw [e1, e2, e3, e4] at h1 h2
  unfold zM at h2
  rw [e1, e2] at h2
  have hz := zpass_cut (h := D (a + 1)) (f := D (a + 2)) (ho := D (c + 2)) (rim := D c 1) (lid := D (c + 1) 4) (sf := D (c + 1) 0) (less := dless (D (c + 1))) (push := push) l0 l1
  change r = (zpass (D c 0) (D c 1) (D (c + 1) 4) (D (c + 1) 0) (dless (D (c + 1))) push (D (a + 1)) (D (a + 2)) (D (c + 2))).2.2 at h1
  change m = (wr (wA (wA D (a + 2) (zpass (D c 0) (D c 1) (D (c + 1) 4) (D (c + 1) 0) (dless (D (c + 1))) push (D (a + 1)) (D (a + 2)) (D (c + 2))).2.1) (a + 1) (zpass (D c 0) (D c 1) (D (c + 1) 4) (D (c + 1) 0) (dless (D (c + 1))) push (D (a + 1)) (D (a + 2)) (D (c + 2))).1) a 2 (w32 (D a 2 + r)), ρ) at h2
  generalize zpass (D c 0) (D c 1) (D (c + 1) 4) (D (c + 1) 0) (dless (D (c + 1))) push (D (a + 1)) (D (a + 2)) (D (c + 2)) = Z at h1 h2 hz
  subst h1
  refine ⟨_, h2, ?_, ?_⟩
  · exact ((Fr.refl.wA (a := a + 2) (fun _ => ⟨by omega, by omega⟩)).wA (a := a + 1) (fun _ => ⟨by omega, by omega⟩)).wr (a := a) ⟨by omega, by omega⟩
  · have q4 : cut 7 (D (c + 1)) 4 = D (c + 1) 4 := cut_in (by decide) (by decide)
    have q0 : cut 7 (D (c + 1)) 0 = D (c + 1) 0 := cut_in (by decide) (by decide)
    have qd : dless (cut 7 (D (c + 1))) = dless (D (c + 1)) := by
      unfold dless
      rw [cut_in (k := 1) (by decide) (by decide), cut_in (k := 2) (by decide) (by decide), cut_in (k := 3) (by decide) (by decide)]
    unfold zrow cupv rowv cLast cRim cSet cHole
    dsimp only
    rw [q4, q0, qd, hz, wr_o (by omega), wr_o (by omega), wr_at, wA_at, wA_o (by omega), wA_at]
end CR
