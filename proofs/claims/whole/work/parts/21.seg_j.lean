/-! ===== by program (wip/whole/gen_seg.py): stretches of methods ===== -/
theorem sg_J7_fill_53178_0 {d bc bs : Nat} {a0 : Nat} {a1 : Int} {μ : Mem} {Q : Option (Option AV) → Mem → Prop}
    (h : ((20 ≤ mK μ a0 ∧ mK μ a0 ≤ 28) ∨ (a0 ≠ 0 ∧ mK μ a0 = 40)) ∧ (∀ v1, v1 = (mN μ a0 : Int) → Wp d bc bs mJ7_fill_53178 5 [some (vr a0), some (vi a1), some (vi 0), some (vi v1)] [] μ Q)) :
    Wp d bc bs mJ7_fill_53178 0 [some (vr a0), some (vi a1), none, none] [] μ Q := by
  refine sg_iconst (pc := 0) dJ7_fill_53178_0 (by omega) ?_
  refine sg_istore_n (pc := 1) (ls' := [some (vr a0), some (vi a1), some (vi 0), none]) dJ7_fill_53178_1 rfl (by show (2 : Nat) < 4; decide) rfl ?_
  refine st_aload_n (pc := 2) dJ7_fill_53178_2 rfl rfl ?_
  obtain ⟨hk1, h⟩ := h
  refine sg_alen (pc := 3) dJ7_fill_53178_3 hk1 ?_
  refine sg_istore_n (pc := 4) (ls' := [some (vr a0), some (vi a1), some (vi 0), some (vi (mN μ a0 : Int))]) dJ7_fill_53178_4 rfl (by show (3 : Nat) < 4; decide) rfl ?_
  refine Wp.nameL (ls2 := fun v => [some (vr a0), some (vi a1), some (vi 0), some (vi v)]) 3 _ rfl (fun _ => rfl) (fun v1 ev1 => ?_)
  replace h := h v1 ev1
  exact h

theorem sg_J7_fill_53178_5 {d bc bs : Nat} {a0 : Nat} {a1 : Int} {a2 : Int} {a3 : Int} {μ : Mem} {Q : Option (Option AV) → Mem → Prop}
    (h : (a3 ≤ a2 → Q (some none) μ) ∧ (¬ a3 ≤ a2 → mK μ a0 = 20 ∧ ((0 : Int) ≤ a2 ∧ a2 < (mN μ a0 : Int)) ∧ (∀ m1, m1 = sD μ a0 a2 a1 → ∀ v1, v1 = w32 (a2 + 1) → Wp d bc bs mJ7_fill_53178 5 [some (vr a0), some (vi a1), some (vi v1), some (vi a3)] [] m1 Q))) :
    Wp d bc bs mJ7_fill_53178 5 [some (vr a0), some (vi a1), some (vi a2), some (vi a3)] [] μ Q := by
  refine st_iload_n (pc := 5) dJ7_fill_53178_5 rfl rfl ?_
  refine st_iload_n (pc := 6) dJ7_fill_53178_6 rfl rfl ?_
  refine st_icmpge (pc := 7) (tgt := 20) dJ7_fill_53178_7 rfl (fun c => ?_) (fun c => ?_)
  · replace h := h.1 c
    exact st_return (pc := 20) dJ7_fill_53178_20 rfl h
  · replace h := h.2 c
    refine st_aload_n (pc := 10) dJ7_fill_53178_10 rfl rfl ?_
    refine st_iload_n (pc := 11) dJ7_fill_53178_11 rfl rfl ?_
    refine st_iload_n (pc := 12) dJ7_fill_53178_12 rfl rfl ?_
    obtain ⟨hk1, h⟩ := h
    obtain ⟨h1, h⟩ := h
    refine st_iastore (pc := 13) dJ7_fill_53178_13 hk1 h1.1 h1.2 ?_
    refine Wp.nameM (fun m1 em1 => ?_)
    replace h := h m1 em1
    refine sg_iinc (pc := 14) (ls' := [some (vr a0), some (vi a1), some (vi (w32 (a2 + 1))), some (vi a3)]) dJ7_fill_53178_14 rfl rfl ?_
    refine Wp.nameL (ls2 := fun v => [some (vr a0), some (vi a1), some (vi v), some (vi a3)]) 2 _ rfl (fun _ => rfl) (fun v1 ev1 => ?_)
    replace h := h v1 ev1
    refine st_goto (pc := 17) dJ7_fill_53178_17 rfl ?_
    exact h

theorem sg_J9_abs_0f7a4_0 {d bc bs : Nat} {a0 : Int} {μ : Mem} {Q : Option (Option AV) → Mem → Prop}
    (h : (0 ≤ a0 → Q (some (some (vi a0))) μ) ∧ (¬ 0 ≤ a0 → Q (some (some (vi (w32 (-a0))))) μ)) :
    Wp d bc bs mJ9_abs_0f7a4 0 [some (vi a0)] [] μ Q := by
  refine st_iload_n (pc := 0) dJ9_abs_0f7a4_0 rfl rfl ?_
  refine st_ifge (pc := 1) (tgt := 9) dJ9_abs_0f7a4_1 rfl (fun c => ?_) (fun c => ?_)
  · replace h := h.1 c
    refine st_iload_n (pc := 9) dJ9_abs_0f7a4_9 rfl rfl ?_
    exact st_ireturn (pc := 10) dJ9_abs_0f7a4_10 (Or.inl rfl) h
  · replace h := h.2 c
    refine st_iload_n (pc := 4) dJ9_abs_0f7a4_4 rfl rfl ?_
    refine st_ineg (pc := 5) dJ9_abs_0f7a4_5 ?_
    refine st_goto (pc := 6) dJ9_abs_0f7a4_6 rfl ?_
    exact st_ireturn (pc := 10) dJ9_abs_0f7a4_10 (Or.inl rfl) h

theorem sg_J9_max_7cf53_0 {d bc bs : Nat} {a0 : Int} {a1 : Int} {μ : Mem} {Q : Option (Option AV) → Mem → Prop}
    (h : (a0 < a1 → Q (some (some (vi a1))) μ) ∧ (¬ a0 < a1 → Q (some (some (vi a0))) μ)) :
    Wp d bc bs mJ9_max_7cf53 0 [some (vi a0), some (vi a1)] [] μ Q := by
  refine st_iload_n (pc := 0) dJ9_max_7cf53_0 rfl rfl ?_
  refine st_iload_n (pc := 1) dJ9_max_7cf53_1 rfl rfl ?_
  refine st_icmplt (pc := 2) (tgt := 9) dJ9_max_7cf53_2 rfl (fun c => ?_) (fun c => ?_)
  · replace h := h.1 c
    refine st_iload_n (pc := 9) dJ9_max_7cf53_9 rfl rfl ?_
    exact st_ireturn (pc := 10) dJ9_max_7cf53_10 (Or.inl rfl) h
  · replace h := h.2 c
    refine st_iload_n (pc := 5) dJ9_max_7cf53_5 rfl rfl ?_
    refine st_goto (pc := 6) dJ9_max_7cf53_6 rfl ?_
    exact st_ireturn (pc := 10) dJ9_max_7cf53_10 (Or.inl rfl) h

theorem sg_J9_min_7cf53_0 {d bc bs : Nat} {a0 : Int} {a1 : Int} {μ : Mem} {Q : Option (Option AV) → Mem → Prop}
    (h : (a1 < a0 → Q (some (some (vi a1))) μ) ∧ (¬ a1 < a0 → Q (some (some (vi a0))) μ)) :
    Wp d bc bs mJ9_min_7cf53 0 [some (vi a0), some (vi a1)] [] μ Q := by
  refine st_iload_n (pc := 0) dJ9_min_7cf53_0 rfl rfl ?_
  refine st_iload_n (pc := 1) dJ9_min_7cf53_1 rfl rfl ?_
  refine st_icmpgt (pc := 2) (tgt := 9) dJ9_min_7cf53_2 rfl (fun c => ?_) (fun c => ?_)
  · replace h := h.1 c
    refine st_iload_n (pc := 9) dJ9_min_7cf53_9 rfl rfl ?_
    exact st_ireturn (pc := 10) dJ9_min_7cf53_10 (Or.inl rfl) h
  · replace h := h.2 c
    refine st_iload_n (pc := 5) dJ9_min_7cf53_5 rfl rfl ?_
    refine st_goto (pc := 6) dJ9_min_7cf53_6 rfl ?_
    exact st_ireturn (pc := 10) dJ9_min_7cf53_10 (Or.inl rfl) h

