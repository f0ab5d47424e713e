/-! ===== a WALK that is told: its STEPS' numbers ===== -/
section WST
variable {t : Int → Int} {en : Int}
def Pg (en : Int) (p : Ps) : Prop := p.2 = -1 → 0 ≤ p.1 ∧ p.1 ≤ en
def WB (v : Wv) : Prop := (0 ≤ wSteps v ∧ wSteps v ≤ wTicks v ∧ wTicks v ≤ 1000) ∧ ∀ i, 0 ≤ i → i < wTicks v → -1 ≤ wSt v i ∧ wSt v i < wSteps v
theorem WB_w0 : WB w0 := ⟨⟨by decide, by decide, by decide⟩, fun i a b => by
  have b : i < 0 := b
  omega⟩
theorem pk_on {c a : Int} (hc : 0 ≤ c) (h : pk t en a = c) : 0 ≤ a ∧ a < en := by
  unfold pk at h
  by_cases z : 0 ≤ a ∧ a < en
  · exact z
  · rw [if_neg z] at h
    omega
theorem Pg.need {c : Int} {p : Ps} (hc : 0 ≤ c) (h : Pg en p) : Pg en (zneed t en c p) := by
  unfold zneed
  by_cases g : p.2 = -1
  · have q := h g
    rw [if_pos g]
    by_cases z : pk t en p.1 = c
    · rw [if_pos z]
      have := pk_on hc z
      intro _
      show 0 ≤ p.1 + 1 ∧ p.1 + 1 ≤ en
      omega
    · rw [if_neg z]
      intro (y : p.1 = -1)
      omega
  · rw [if_neg g]
    exact h
theorem Pg.num {lo hi : Int} {p : Ps} (h : Pg en p) : Pg en (znumP t en lo hi p) := by
  unfold znumP
  by_cases g : p.2 = -1
  · have q := h g
    have r3 := zdg_rng (t := t) (en := en) (n := 3) (v := 0) (a := p.1) (by decide) (by decide) q.1 q.2
    rw [if_pos g]
    split
    · intro (y : p.1 = -1)
      omega
    · split
      · intro _
        show 0 ≤ (zdg t en 3 0 p.1).2 ∧ (zdg t en 3 0 p.1).2 ≤ en
        omega
      · intro (y : (zdg t en 3 0 p.1).2 - 1 = -1)
        omega
  · rw [if_neg g]
    exact h
theorem Pg.skip {c : Int} {p : Ps} (hc : 0 ≤ c) (h : Pg en p) : Pg en (zskipP t en c p) := by
  unfold zskipP zskip
  split
  · rename_i z
    simp only [Bool.and_eq_true, decide_eq_true_eq] at z
    have := pk_on hc z.2
    intro _
    show 0 ≤ p.1 + 1 ∧ p.1 + 1 ≤ en
    omega
  · exact h
theorem znumP_g {lo hi : Int} {p : Ps} (h : (znumP t en lo hi p).2 = -1) : p.2 = -1 := by
  unfold znumP at h
  by_cases g : p.2 = -1
  · exact g
  · rw [if_neg g] at h
    exact h
theorem Pg.rng {lo hi : Int} {p : Ps} (h : Pg en p) (h1 : (znumP t en lo hi p).2 = -1) : lo ≤ znumV t en lo hi p ∧ znumV t en lo hi p ≤ hi := znumV_rng h1 (h (znumP_g h1))
theorem znumP_1 {lo hi : Int} {p : Ps} (h : Pg en p) (h1 : (znumP t en lo hi p).2 = -1) : 1 ≤ (znumP t en lo hi p).1 := by
  have q := h (znumP_g h1)
  have g := znumP_g h1
  have r3 := zdg_rng (t := t) (en := en) (n := 3) (v := 0) (a := p.1) (by decide) (by decide) q.1 q.2
  unfold znumP at h1 ⊢
  rw [if_pos g] at h1 ⊢
  by_cases e : (zdg t en 3 0 p.1).2 = p.1
  · rw [if_pos e] at h1
    have h1 : p.1 = -1 := h1
    omega
  · rw [if_neg e] at h1 ⊢
    by_cases b : lo ≤ (zdg t en 3 0 p.1).1 ∧ (zdg t en 3 0 p.1).1 ≤ hi
    · rw [if_pos b]
      show 1 ≤ (zdg t en 3 0 p.1).2
      omega
    · rw [if_neg b] at h1
      have h1 : (zdg t en 3 0 p.1).2 - 1 = -1 := h1
      omega
def WG (en : Int) (x : Ws) : Prop := Pg en x.1 ∧ (x.1.2 = -1 → WB x.2.1)
theorem zroom_WG {n : Int} {p : Ps} {v v' : Wv} {wa : Int} (hp : Pg en p) (h1 : p.2 = -1 → 1 ≤ p.1) (hv : p.2 = -1 → wTicks v + n ≤ 1000 → WB v') : WG en (zroom n p v v' wa) := by
  unfold zroom
  by_cases g : p.2 = -1
  · have q := hp g
    have q1 := h1 g
    rw [if_pos g]
    by_cases z : wTicks v + n ≤ 1000
    · rw [if_pos z]
      exact ⟨hp, fun _ => hv g z⟩
    · rw [if_neg z]
      refine ⟨?_, ?_⟩
      · intro (y : p.1 - 1 = -1)
        omega
      · intro (y : p.1 - 1 = -1)
        omega
  · rw [if_neg g]
    exact ⟨hp, fun z => absurd z g⟩
theorem ext_out {f g : Int → Int} {t0 t1 k : Int} (h : k < t0) : ext f t0 t1 g k = f k := if_neg (by omega)
theorem ext_in {f g : Int → Int} {t0 t1 k : Int} (h : t0 ≤ k) (h1 : k < t1) : ext f t0 t1 g k = g (k - t0) := if_pos ⟨h, h1⟩
theorem WB_ext {v : Wv} {n wa : Int} {al ac : Int → Int} (h : WB v) (n0 : 0 ≤ n) (hn : wTicks v + n ≤ 1000) : WB (wExt v n wa al ac (fun _ => -1)) := by
  obtain ⟨⟨a, b, c⟩, d⟩ := h
  refine ⟨⟨a, ?_, hn⟩, fun i i0 i1 => ?_⟩
  · show wSteps v ≤ wTicks v + n
    omega
  · have i1 : i < wTicks v + n := i1
    show -1 ≤ ext (wSt v) (wTicks v) (wTicks v + n) (fun _ => -1) i ∧ ext (wSt v) (wTicks v) (wTicks v + n) (fun _ => -1) i < wSteps v
    by_cases g : i < wTicks v
    · rw [ext_out g]
      exact d i i0 g
    · rw [ext_in (by omega) i1]
      omega
theorem WB_put {v : Wv} {al ac wa : Int} (h : WB v) (hn : wTicks v + 1 ≤ 1000) : WB (wPut v al ac wa (-1)) := by
  obtain ⟨⟨a, b, c⟩, d⟩ := h
  refine ⟨⟨a, ?_, hn⟩, fun i i0 i1 => ?_⟩
  · show wSteps v ≤ wTicks v + 1
    omega
  · have i1 : i < wTicks v + 1 := i1
    show -1 ≤ zu (wSt v) (wTicks v) (-1) i ∧ zu (wSt v) (wTicks v) (-1) i < wSteps v
    by_cases g : i = wTicks v
    · rw [g, zu_at]
      omega
    · rw [zu_ne g]
      exact d i i0 (by omega)
theorem WB_steps {v : Wv} {wa push n sway times : Int} (h : WB v) (n0 : 2 ≤ n) (t0 : 1 ≤ times) (hn : wTicks v + n * times ≤ 1000) : WB (wSteps' v wa push n sway times) := by
  obtain ⟨⟨a, b, c⟩, d⟩ := h
  have hm : times ≤ n * times := by
    have := Int.mul_le_mul_of_nonneg_right (show (1 : Int) ≤ n by omega) (show 0 ≤ times by omega)
    omega
  refine ⟨⟨?_, ?_, hn⟩, fun i i0 i1 => ?_⟩
  · show 0 ≤ wSteps v + times
    omega
  · show wSteps v + times ≤ wTicks v + n * times
    omega
  · have i1 : i < wTicks v + n * times := i1
    show -1 ≤ ext (wSt v) (wTicks v) (wTicks v + n * times) (stSt n (wSteps v)) i ∧ ext (wSt v) (wTicks v) (wTicks v + n * times) (stSt n (wSteps v)) i < wSteps v + times
    by_cases g : i < wTicks v
    · rw [ext_out g]
      have := d i i0 g
      omega
    · rw [ext_in (by omega) i1]
      show -1 ≤ wSteps v + (i - wTicks v) / n ∧ wSteps v + (i - wTicks v) / n < wSteps v + times
      have e0 : 0 ≤ (i - wTicks v) / n := Int.ediv_nonneg (by omega) (by omega)
      have e1 : (i - wTicks v) / n < times := Int.ediv_lt_of_lt_mul (by omega) (by rw [Int.mul_comm]; omega)
      omega
theorem Pg.gA {p : Ps} (h : Pg en p) : Pg en (gpA t en p) := (h.num).need (by decide)
theorem Pg.gB {p : Ps} (h : Pg en p) : Pg en (gpB t en p) := (h.gA.num).need (by decide)
theorem Pg.gC {p : Ps} (h : Pg en p) : Pg en (gpC t en p) := (h.gB.num).need (by decide)
theorem zpart_WG {x : Ws} (hz : 0 ≤ x.1.1 ∧ x.1.1 ≤ en) (hv : WB x.2.1) : WG en (zpart t en x) := by
  have nx : ∀ {c : Int}, 0 ≤ c → pk t en x.1.1 = c → Pg en ((x.1.1 + 1, -1) : Ps) := fun hc h => by
    have := pk_on hc h
    intro _
    show 0 ≤ x.1.1 + 1 ∧ x.1.1 + 1 ≤ en
    omega
  unfold zpart
  split
  · rename_i c
    have hh := nx (by decide) c
    refine zroom_WG (hh.gC.num) (fun g => znumP_1 hh.gC g) (fun g z => ?_)
    have gC := znumP_g g
    have gB' := zneed_g gC
    have gB := znumP_g gB'
    have gA' := zneed_g gB
    have r1 := hh.gC.rng g
    have r2 := Pg.rng (t := t) hh.gA gA'
    exact WB_steps hv r2.1 r1.1 z
  · split
    · rename_i c
      have hh := nx (by decide) c
      refine zroom_WG hh.num (fun g => znumP_1 hh g) (fun g z => ?_)
      have r := hh.rng g
      exact WB_ext hv (by omega) z
    · split
      · rename_i c
        have hh := nx (by decide) c
        exact zroom_WG (hh.skip (by decide)).num (fun g => znumP_1 (hh.skip (by decide)) g) (fun g z => WB_put hv z)
      · split
        · rename_i c
          have hh := nx (by decide) c
          exact ⟨hh.num, fun _ => hv⟩
        · refine ⟨?_, ?_⟩
          · intro (y : x.1.1 = -1)
            omega
          · intro (y : x.1.1 = -1)
            omega
theorem zparts_WG : ∀ {n : Nat} {x : Ws}, WG en x → WG en (zparts t en n x)
  | 0, _, h => h
  | n + 1, x, h => by
    have e : zparts t en (n + 1) x = if zskip t en 59 x.1 = true then zparts t en n (zpart t en ((x.1.1 + 1, -1), x.2.1, x.2.2)) else x := rfl
    rw [e]
    split
    · rename_i z
      unfold zskip at z
      simp only [Bool.and_eq_true, decide_eq_true_eq] at z
      have r := pk_on (by decide) z.2
      exact zparts_WG (zpart_WG (by show 0 ≤ x.1.1 + 1 ∧ x.1.1 + 1 ≤ en; omega) (h.2 z.1))
    · exact h
theorem zwalk_WB (h0 : 0 ≤ en) (h : (zwalk t en).1.2 = -1) : WB (zwalk t en).2.1 := by
  unfold zwalk at h ⊢
  split
  · rename_i g
    rw [if_pos g] at h
    exact (zparts_WG (zpart_WG (by show (0 : Int) ≤ 0 ∧ (0 : Int) ≤ en; omega) WB_w0)).2 h
  · exact WB_w0
theorem WB.at {v : Wv} (h : WB v) (i : Int) : -1 ≤ zstepAt v i ∧ zstepAt v i ≤ 999 := by
  unfold zstepAt
  obtain ⟨⟨a, b, c⟩, d⟩ := h
  split
  · rename_i z
    have := d i z.1 (by omega)
    omega
  · exact ⟨by decide, by decide⟩
end WST
