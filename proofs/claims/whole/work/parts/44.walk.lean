/-! ===== the WALK's small methods ===== -/
def ext (f : Int → Int) (t0 t1 : Int) (g : Int → Int) : Int → Int := fun k => if t0 ≤ k ∧ k < t1 then g (k - t0) else f k
theorem ext_0 {f g : Int → Int} {t0 t1 : Int} (h : t1 ≤ t0) : ext f t0 t1 g = f := by
  funext k
  exact if_neg (by omega)
theorem ext_s {f g : Int → Int} {t0 t1 : Int} (h : t0 ≤ t1) : zu (ext f t0 t1 g) t1 (g (t1 - t0)) = ext f t0 (t1 + 1) g := by
  funext k
  show (if k = t1 then g (t1 - t0) else if t0 ≤ k ∧ k < t1 then g (k - t0) else f k) = if t0 ≤ k ∧ k < t1 + 1 then g (k - t0) else f k
  by_cases e : k = t1
  · rw [if_pos e, if_pos (by omega), e]
  · rw [if_neg e]
    by_cases e2 : t0 ≤ k ∧ k < t1
    · rw [if_pos e2, if_pos (by omega)]
    · rw [if_neg e2, if_neg (by omega)]
theorem ext_ext {f g h : Int → Int} {t0 t1 t2 : Int} (a : t0 ≤ t1) (b : t1 ≤ t2) (e : ∀ k, 0 ≤ k → k < t2 - t1 → h k = g (t1 - t0 + k)) : ext (ext f t0 t1 g) t1 t2 h = ext f t0 t2 g := by
  funext k
  show (if t1 ≤ k ∧ k < t2 then h (k - t1) else if t0 ≤ k ∧ k < t1 then g (k - t0) else f k) = if t0 ≤ k ∧ k < t2 then g (k - t0) else f k
  by_cases e1 : t1 ≤ k ∧ k < t2
  · rw [if_pos e1, if_pos (by omega), e _ (by omega) (by omega), show t1 - t0 + (k - t1) = k - t0 by omega]
  · rw [if_neg e1]
    by_cases e2 : t0 ≤ k ∧ k < t1
    · rw [if_pos e2, if_pos (by omega)]
    · rw [if_neg e2, if_neg (by omega)]
/-- n TICKS more: along, across, of what STEP -/
def wExt (v : Wv) (n wa : Int) (al ac st : Int → Int) : Wv := (wTicks v + n, wSteps v, ext (wAl v) (wTicks v) (wTicks v + n) al, ext (wAc v) (wTicks v) (wTicks v + n) ac, ext (wWan v) (wTicks v) (wTicks v + n) (fun _ => wa), ext (wSt v) (wTicks v) (wTicks v + n) st)
theorem wExt_0 {v : Wv} {wa : Int} {al ac st : Int → Int} : wExt v 0 wa al ac st = v := by
  unfold wExt
  rw [ext_0 (by omega), ext_0 (by omega), ext_0 (by omega), ext_0 (by omega), Int.add_zero]
  rfl
theorem wExt_s {v : Wv} {n wa : Int} {al ac st : Int → Int} (h : 0 ≤ n) : wPut (wExt v n wa al ac st) (al n) (ac n) wa (st n) = wExt v (n + 1) wa al ac st := by
  unfold wPut
  have e : ∀ (f g : Int → Int), zu (ext f (wTicks v) (wTicks v + n) g) (wTicks v + n) (g n) = ext f (wTicks v) (wTicks v + (n + 1)) g := fun f g => by
    have := ext_s (f := f) (g := g) (t0 := wTicks v) (t1 := wTicks v + n) (by omega)
    rw [show wTicks v + n - wTicks v = n by omega] at this
    rw [this, show wTicks v + n + 1 = wTicks v + (n + 1) by omega]
  show (wTicks v + n + 1, wSteps v, zu (ext (wAl v) (wTicks v) (wTicks v + n) al) (wTicks v + n) (al n), zu (ext (wAc v) (wTicks v) (wTicks v + n) ac) (wTicks v + n) (ac n), zu (ext (wWan v) (wTicks v) (wTicks v + n) (fun _ => wa)) (wTicks v + n) ((fun _ => wa) n), zu (ext (wSt v) (wTicks v) (wTicks v + n) st) (wTicks v + n) (st n)) = _
  rw [e, e, e, e, show wTicks v + n + 1 = wTicks v + (n + 1) by omega]
  rfl
theorem wExt_ext {v : Wv} {m n wa : Int} {al ac st al' ac' st' : Int → Int} (hm : 0 ≤ m) (hn : 0 ≤ n) (e1 : ∀ k, 0 ≤ k → k < n → al' k = al (m + k)) (e2 : ∀ k, 0 ≤ k → k < n → ac' k = ac (m + k)) (e3 : ∀ k, 0 ≤ k → k < n → st' k = st (m + k)) :
    wExt (wExt v m wa al ac st) n wa al' ac' st' = wExt v (m + n) wa al ac st := by
  have q : ∀ (f g h : Int → Int), (∀ k, 0 ≤ k → k < n → h k = g (m + k)) → ext (ext f (wTicks v) (wTicks v + m) g) (wTicks v + m) (wTicks v + m + n) h = ext f (wTicks v) (wTicks v + (m + n)) g := fun f g h e => by
    rw [show wTicks v + (m + n) = wTicks v + m + n by omega]
    refine ext_ext (by omega) (by omega) (fun k k0 k1 => ?_)
    rw [e k k0 (by omega), show wTicks v + m - wTicks v + k = m + k by omega]
  show (wTicks v + m + n, wSteps v, ext (ext (wAl v) (wTicks v) (wTicks v + m) al) (wTicks v + m) (wTicks v + m + n) al', ext (ext (wAc v) (wTicks v) (wTicks v + m) ac) (wTicks v + m) (wTicks v + m + n) ac', ext (ext (wWan v) (wTicks v) (wTicks v + m) (fun _ => wa)) (wTicks v + m) (wTicks v + m + n) (fun _ => wa), ext (ext (wSt v) (wTicks v) (wTicks v + m) st) (wTicks v + m) (wTicks v + m + n) st') = _
  rw [q _ _ _ e1, q _ _ _ e2, q _ _ _ (fun _ _ _ => rfl), q _ _ _ e3, show wTicks v + m + n = wTicks v + (m + n) by omega]
  rfl
/-- the last STEP's number grows -/
def wStp (v : Wv) (s : Int) : Wv := (wTicks v, s, v.2.2)
section WK
variable {d w : Nat} {D : DD} {ρ : Rho}
def wF (w : Nat) (q : Nat) (_ : Int) : Prop := w ≤ q ∧ q ≤ w + 4
theorem C_wclear (hw : SWk ρ w) : Cl d 0 0 mX8_clear [vr w] (D, ρ) (KV (fun m => ∃ D', m = (D', ρ) ∧ Fr (wF w) D D' ∧ wkv D' w = (0, 0, fun _ => 0, fun _ => 0, fun _ => 0, fun _ => 0) ∧ D' w 6 = 0)) := by
  refine Cl_of mb_X8_clear (by show 1 ≤ 1; decide) (sg_X8_clear_0 ⟨hw.1, fun m1 e1 m2 e2 m3 e3 => ⟨rfl, wr (wr (wr D w 4 0) w 5 0) w 6 0, by rw [e3, e2, e1]; rfl, ?_, ?_, wr_at⟩⟩)
  · exact ((Fr.refl.wr (by unfold wF; omega)).wr (by unfold wF; omega)).wr (by unfold wF; omega)
  · have z : ∀ f : Int → Int, cut 0 f = fun _ => 0 := fun f => by
      funext k
      exact cut_out (by omega)
    unfold wkv
    rw [wr_j (by decide), wr_j (by decide), wr_at, wr_j (by decide), wr_at, z, z, z, z]
theorem C_addTick {al ac st : Int} (hw : SWk ρ w) (t0 : 0 ≤ D w 4) (t1 : D w 4 < 1000) : Cl d 0 0 mX8_addTick [vr w, vi al, vi ac, vi st] (D, ρ) (KV (fun m => ∃ D', m = (D', ρ) ∧ Fr (wF w) D D' ∧ wkv D' w = wPut (wkv D w) al ac (D w 6) st ∧ D' w 6 = D w 6 ∧ D' w 4 = D w 4 + 1)) := by
  obtain ⟨w0, ⟨w1, w2, w3, w4⟩, ⟨x1, x2, x3, x4⟩, y1, y2, y3, y4⟩ := hw
  have g1 : rK ρ (rR ρ w 0) = 20 := by rw [w1]; exact x1
  have g2 : rK ρ (rR ρ w 1) = 20 := by rw [w2]; exact x2
  have g3 : rK ρ (rR ρ w 2) = 20 := by rw [w3]; exact x3
  have g4 : rK ρ (rR ρ w 3) = 20 := by rw [w4]; exact x4
  have m1' : rN ρ (rR ρ w 0) = 1000 := by rw [w1]; exact y1
  have m2' : rN ρ (rR ρ w 1) = 1000 := by rw [w2]; exact y2
  have m3' : rN ρ (rR ρ w 2) = 1000 := by rw [w3]; exact y3
  have m4' : rN ρ (rR ρ w 3) = 1000 := by rw [w4]; exact y4
  refine Cl_of mb_X8_addTick (by show 4 ≤ 4; decide) (sg_X8_addTick_0 ⟨w0, fun c => ⟨g1, bnd (N := 1000) m1' t0 t1, fun m1 e1 => ?_⟩, fun c => absurd t1 c⟩)
  have e1 : m1 = (wr D (w + 1) (D w 4) al, ρ) := by rw [e1, show mR (D, ρ) w 0 = w + 1 from w1]; rfl
  subst e1
  have q1 : ∀ j, wr D (w + 1) (D w 4) al w j = D w j := fun j => by rw [wr_o (by omega)]
  refine ⟨g2, bnd (N := 1000) m2' (by show 0 ≤ wr D (w + 1) (D w 4) al w 4; rw [q1]; exact t0) (by show wr D (w + 1) (D w 4) al w 4 < 1000; rw [q1]; exact t1), fun m2 e2 => ?_⟩
  have e2 : m2 = (wr (wr D (w + 1) (D w 4) al) (w + 2) (D w 4) ac, ρ) := by
    rw [e2, show mR (wr D (w + 1) (D w 4) al, ρ) w 1 = w + 2 from w2, show mD (wr D (w + 1) (D w 4) al, ρ) w 4 = D w 4 from q1 4]
    rfl
  subst e2
  have q2 : ∀ j, wr (wr D (w + 1) (D w 4) al) (w + 2) (D w 4) ac w j = D w j := fun j => by rw [wr_o (by omega), q1]
  refine ⟨g3, bnd (N := 1000) m3' (by show 0 ≤ wr (wr D (w + 1) (D w 4) al) (w + 2) (D w 4) ac w 4; rw [q2]; exact t0) (by show wr (wr D (w + 1) (D w 4) al) (w + 2) (D w 4) ac w 4 < 1000; rw [q2]; exact t1), fun m3 e3 => ?_⟩
  have e3 : m3 = (wr (wr (wr D (w + 1) (D w 4) al) (w + 2) (D w 4) ac) (w + 3) (D w 4) (D w 6), ρ) := by
    rw [e3, show mR (wr (wr D (w + 1) (D w 4) al) (w + 2) (D w 4) ac, ρ) w 2 = w + 3 from w3, show mD (wr (wr D (w + 1) (D w 4) al) (w + 2) (D w 4) ac, ρ) w 4 = D w 4 from q2 4, show mD (wr (wr D (w + 1) (D w 4) al) (w + 2) (D w 4) ac, ρ) w 6 = D w 6 from q2 6]
    rfl
  subst e3
  have q3 : ∀ j, wr (wr (wr D (w + 1) (D w 4) al) (w + 2) (D w 4) ac) (w + 3) (D w 4) (D w 6) w j = D w j := fun j => by rw [wr_o (by omega), q2]
  refine ⟨g4, bnd (N := 1000) m4' (by show 0 ≤ wr (wr (wr D (w + 1) (D w 4) al) (w + 2) (D w 4) ac) (w + 3) (D w 4) (D w 6) w 4; rw [q3]; exact t0) (by show wr (wr (wr D (w + 1) (D w 4) al) (w + 2) (D w 4) ac) (w + 3) (D w 4) (D w 6) w 4 < 1000; rw [q3]; exact t1), fun m4 e4 m5 e5 => ?_⟩
  have e4 : m4 = (wr (wr (wr (wr D (w + 1) (D w 4) al) (w + 2) (D w 4) ac) (w + 3) (D w 4) (D w 6)) (w + 4) (D w 4) st, ρ) := by
    rw [e4, show mR (wr (wr (wr D (w + 1) (D w 4) al) (w + 2) (D w 4) ac) (w + 3) (D w 4) (D w 6), ρ) w 3 = w + 4 from w4, show mD (wr (wr (wr D (w + 1) (D w 4) al) (w + 2) (D w 4) ac) (w + 3) (D w 4) (D w 6), ρ) w 4 = D w 4 from q3 4]
    rfl
  subst e4
  have q4 : ∀ j, wr (wr (wr (wr D (w + 1) (D w 4) al) (w + 2) (D w 4) ac) (w + 3) (D w 4) (D w 6)) (w + 4) (D w 4) st w j = D w j := fun j => by rw [wr_o (by omega), q3]
  have e5 : m5 = (wr (wr (wr (wr (wr D (w + 1) (D w 4) al) (w + 2) (D w 4) ac) (w + 3) (D w 4) (D w 6)) (w + 4) (D w 4) st) w 4 (w32 (D w 4 + 1)), ρ) := by
    rw [e5, show mD (wr (wr (wr (wr D (w + 1) (D w 4) al) (w + 2) (D w 4) ac) (w + 3) (D w 4) (D w 6)) (w + 4) (D w 4) st, ρ) w 4 = D w 4 from q4 4]
    rfl
  refine ⟨rfl, _, e5, ?_, ?_, ?_, ?_⟩
  · exact ((((Fr.refl.wr (by unfold wF; omega)).wr (by unfold wF; omega)).wr (by unfold wF; omega)).wr (by unfold wF; omega)).wr (by unfold wF; omega)
  · unfold wkv wPut
    rw [wr_at, wr_j (by decide), q4, w32_id (by omega) (by omega)]
    rw [wr_o (o := w + 1) (by omega), wr_o (o := w + 2) (by omega), wr_o (o := w + 3) (by omega), wr_o (o := w + 4) (by omega)]
    rw [wr_o (o := w + 1) (by omega), wr_o (o := w + 1) (by omega), wr_o (o := w + 1) (by omega), wr_A, wr_o (o := w + 2) (by omega), wr_o (o := w + 2) (by omega), wr_A, wr_o (o := w + 2) (by omega), wr_o (o := w + 3) (by omega), wr_A, wr_o (o := w + 3) (by omega), wr_o (o := w + 3) (by omega), wr_A, wr_o (o := w + 4) (by omega), wr_o (o := w + 4) (by omega), wr_o (o := w + 4) (by omega)]
    rw [cut_push t0, cut_push t0, cut_push t0, cut_push t0]
    rfl
  · rw [wr_j (by decide), q4]
  · rw [wr_at, w32_id (by omega) (by omega)]
theorem C_stepAt {i : Int} (hw : SWk ρ w) (t0 : 0 ≤ D w 4) (t1 : D w 4 ≤ 1000) : Cl (d + 1) 0 0 mX8_stepAt [vr w, vi i] (D, ρ) (KI (fun r m => r = zstepAt (wkv D w) i ∧ m = (D, ρ))) := by
  obtain ⟨w0, ⟨w1, w2, w3, w4⟩, ⟨x1, x2, x3, x4⟩, y1, y2, y3, y4⟩ := hw
  have g4 : rK ρ (rR ρ w 3) = 20 := by rw [w4]; exact x4
  have m4' : rN ρ (rR ρ w 3) = 1000 := by rw [w4]; exact y4
  have et : w32 (D w 4 - 1) = D w 4 - 1 := w32_id (by omega) (by omega)
  refine Cl_of mb_X8_stepAt (by show 2 ≤ 2; decide) (sg_X8_stepAt_0 ⟨w0, cB C_isIn (fun hy => yE ⟨w0, Or.inl g4, bnd (N := 1000) m4' hy.1 ?_, _, rfl, ?_, rfl⟩) (fun hy => nE ⟨_, rfl, ?_, rfl⟩)⟩)
  · have hy2 : i ≤ w32 (D w 4 - 1) := hy.2
    rw [et] at hy2
    show i < 1000
    omega
  · have hy2 : i ≤ w32 (D w 4 - 1) := hy.2
    rw [et] at hy2
    have hy1 : 0 ≤ i := hy.1
    unfold zstepAt
    rw [if_pos (show 0 ≤ i ∧ i ≤ wTicks (wkv D w) - 1 from ⟨hy1, hy2⟩)]
    show D (rR ρ w 3) i = cut (D w 4) (D (w + 4)) i
    rw [cut_in hy1 (by omega), w4]
  · have hy : ¬ (0 ≤ i ∧ i ≤ w32 (D w 4 - 1)) := hy
    rw [et] at hy
    unfold zstepAt
    rw [if_neg (show ¬ (0 ≤ i ∧ i ≤ wTicks (wkv D w) - 1) from hy)]
theorem C_sizes {a : Nat} (hw : SWk ρ w) (hk : rK ρ a = 20) (hN : rN ρ a = 1000) (t0 : 0 ≤ D w 4) (t1 : D w 4 ≤ 1000) : Cl (d + 1) 0 0 mX8_sizes [vr w, vr a] (D, ρ) (KI (fun r m => r = zsz (cut (D w 4) (D a)) (D w 4).toNat ∧ m = (D, ρ))) := by
  refine Cl_of mb_X8_sizes (by show 2 ≤ 4; decide) (sg_X8_sizes_0 ?_)
  refine Wp.loop (σ := Int × Int) (fun z => [some (vr w), some (vr a), some (vi z.1), some (vi z.2)])
    (fun z ν => ν = (D, ρ) ∧ 0 ≤ z.2 ∧ z.2 ≤ D w 4 ∧ z.1 = zsz (cut (D w 4) (D a)) z.2.toNat)
    (fun z => (D w 4 - z.2).toNat) ?_ (0, 0) (D, ρ) ⟨rfl, by decide, t0, rfl⟩
  rintro ⟨g, i⟩ ν ⟨rfl, j0, j1, hv⟩ ih
  dsimp only at j0 j1 hv ih ⊢
  have hN : mN (D, ρ) a = 1000 := hN
  refine sg_X8_sizes_4 ⟨hw.1, fun c => ⟨_, rfl, ?_, rfl⟩, fun c => ⟨ka hk, ?_⟩⟩
  · change D w 4 ≤ i at c
    rw [hv, show i = D w 4 by omega]
  · change ¬ D w 4 ≤ i at c
    rw [hN]
    refine ⟨fun c2 => by omega, fun c2 => ⟨Or.inl hk, ⟨j0, by omega⟩, cP C_absz fun v1 e1 v2 e2 => ?_⟩⟩
    rw [w32_id (by omega) (by omega)] at e2
    subst e1 e2
    refine ih (_, i + 1) (D, ρ) ⟨rfl, by dsimp only; omega, by dsimp only; omega, ?_⟩ (by dsimp only; omega)
    dsimp only
    rw [show (i + 1).toNat = i.toNat + 1 by omega, hv]
    show w32 (_ + zabs (D a i)) = w32 (_ + zabs (cut (D w 4) (D a) ((i.toNat : Nat) : Int)))
    rw [show ((i.toNat : Nat) : Int) = i by omega, cut_in j0 (by omega)]
end WK
