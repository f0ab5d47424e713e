/-! ===== both TEXTS read alike: bytes without and with a sign ===== -/
/-- equal where it counts -/
def Tal (t t' : Int → Int) (en : Int) : Prop := ∀ a, pk t en a = pk t' en a ∨ ((pk t en a < 0 ∨ 127 < pk t en a) ∧ (pk t' en a < 0 ∨ 127 < pk t' en a))
theorem zdg_s {t : Int → Int} {en : Int} {n : Nat} {v a : Int} : zdg t en (n + 1) v a = if 48 ≤ pk t en a ∧ pk t en a ≤ 57 then zdg t en n (10 * v + pk t en a - 48) (a + 1) else (v, a) := rfl
theorem tal_of {t t' : Int → Int} {en : Int} (h : ∀ k, 0 ≤ k → k < en → 0 ≤ t k ∧ t k ≤ 255 ∧ t' k = w8 (t k)) : Tal t t' en := by
  intro a
  unfold pk
  by_cases z : 0 ≤ a ∧ a < en
  · rw [if_pos z, if_pos z]
    obtain ⟨h1, h2, h3⟩ := h a z.1 z.2
    rw [h3]
    unfold w8
    omega
  · rw [if_neg z, if_neg z]
    exact Or.inl rfl
section TAL
variable {t t' : Int → Int} {en : Int}
theorem Tal.c (h : Tal t t' en) {a c : Int} (h0 : 0 ≤ c) (h1 : c ≤ 127) : (pk t en a = c) = (pk t' en a = c) := by
  have := h a
  exact propext (by omega)
theorem Tal.zdg (h : Tal t t' en) : ∀ {n : Nat} {v a : Int}, zdg t en n v a = zdg t' en n v a
  | 0, _, _ => rfl
  | n + 1, v, a => by
    rw [zdg_s, zdg_s]
    have q := h a
    by_cases z : 48 ≤ pk t en a ∧ pk t en a ≤ 57
    · have e : pk t en a = pk t' en a := by omega
      rw [if_pos z, if_pos (by omega), e]
      exact h.zdg
    · rw [if_neg z, if_neg (by omega)]
theorem Tal.numV (h : Tal t t' en) {lo hi : Int} {p : Ps} : znumV t en lo hi p = znumV t' en lo hi p := by
  unfold znumV
  rw [h.zdg]
theorem Tal.numP (h : Tal t t' en) {lo hi : Int} {p : Ps} : znumP t en lo hi p = znumP t' en lo hi p := by
  unfold znumP
  rw [h.zdg]
theorem Tal.skip (h : Tal t t' en) {c : Int} (h0 : 0 ≤ c) (h1 : c ≤ 127) {p : Ps} : zskip t en c p = zskip t' en c p := by
  unfold zskip
  congr 1
  exact decide_eq_decide.mpr (iff_of_eq (h.c h0 h1))
theorem Tal.skipP (h : Tal t t' en) {c : Int} (h0 : 0 ≤ c) (h1 : c ≤ 127) {p : Ps} : zskipP t en c p = zskipP t' en c p := by
  unfold zskipP
  rw [h.skip h0 h1]
theorem Tal.need (h : Tal t t' en) {c : Int} (h0 : 0 ≤ c) (h1 : c ≤ 127) {p : Ps} : zneed t en c p = zneed t' en c p := by
  unfold zneed
  simp only [h.c h0 h1]
theorem Tal.gA (h : Tal t t' en) {p : Ps} : gpA t en p = gpA t' en p := by
  unfold gpA
  rw [h.numP, h.need (by decide) (by decide)]
theorem Tal.gB (h : Tal t t' en) {p : Ps} : gpB t en p = gpB t' en p := by
  unfold gpB
  rw [h.gA, h.numP, h.need (by decide) (by decide)]
theorem Tal.gC (h : Tal t t' en) {p : Ps} : gpC t en p = gpC t' en p := by
  unfold gpC
  rw [h.gB, h.numP, h.need (by decide) (by decide)]
theorem Tal.part (h : Tal t t' en) {x : Ws} : zpart t en x = zpart t' en x := by
  have eg : ∀ p v wa, zwg t en p v wa = zwg t' en p v wa := fun p v wa => by
    unfold zwg
    rw [h.gA, h.gB, h.gC, h.numP, h.numV, h.numV, h.numV, h.numV]
  have es : ∀ p v wa, zws t en p v wa = zws t' en p v wa := fun p v wa => by
    unfold zws
    rw [h.numP, h.numV]
  have ej : ∀ p v wa, zwj t en p v wa = zwj t' en p v wa := fun p v wa => by
    unfold zwj
    rw [h.skipP (by decide) (by decide), h.skip (by decide) (by decide), h.numP, h.numV]
  unfold zpart
  simp only [h.c (c := 103) (by decide) (by decide), h.c (c := 115) (by decide) (by decide), h.c (c := 106) (by decide) (by decide), h.c (c := 119) (by decide) (by decide), eg, es, ej, h.numP, h.numV]
theorem Tal.parts (h : Tal t t' en) : ∀ {n : Nat} {x : Ws}, zparts t en n x = zparts t' en n x
  | 0, _ => rfl
  | n + 1, x => by
    have e : ∀ t, zparts t en (n + 1) x = if zskip t en 59 x.1 = true then zparts t en n (zpart t en ((x.1.1 + 1, -1), x.2.1, x.2.2)) else x := fun _ => rfl
    rw [e, e, h.skip (by decide) (by decide), h.part, h.parts]
theorem Tal.walk (h : Tal t t' en) : zwalk t en = zwalk t' en := by
  unfold zwalk
  rw [h.part, h.parts]
theorem Tal.negs (h : Tal t t' en) : ∀ {n : Nat} {p : Ps} {b : Bool}, lnegs t en n p b = lnegs t' en n p b
  | 0, _, _ => rfl
  | n + 1, p, b => by
    have e : ∀ t, lnegs t en (n + 1) p b = if zskip t en 45 p = true then lnegs t en n (p.1 + 1, -1) (!b) else (p, b) := fun _ => rfl
    rw [e, e, h.skip (by decide) (by decide), h.negs]
theorem Tal.core (h : Tal t t' en) {f f' : Ps → Ls} {can : Bool} (hf : ∀ p, f p = f' p) {p : Ps} : lcore t en f can p = lcore t' en f' can p := by
  have ed : (48 ≤ pk t en p.1 ∧ pk t en p.1 ≤ 57) = (48 ≤ pk t' en p.1 ∧ pk t' en p.1 ≤ 57) := propext (by have := h p.1; omega)
  have en' : lname t en p = lname t' en p := by
    unfold lname
    simp only [h.c (c := 112) (by decide) (by decide), h.c (c := 115) (by decide) (by decide), h.c (c := 116) (by decide) (by decide), h.c (c := 102) (by decide) (by decide), h.c (c := 104) (by decide) (by decide)]
  unfold lcore
  simp only [ed, h.c (c := 40) (by decide) (by decide), h.numP, h.numV, h.need (c := 41) (by decide) (by decide), hf, en']
theorem Tal.thing (h : Tal t t' en) {f f' : Ps → Ls} {can : Bool} (hf : ∀ p, f p = f' p) {p : Ps} : lthing t en f can p = lthing t' en f' can p := by
  unfold lthing
  rw [h.negs, h.core hf]
theorem Tal.more (h : Tal t t' en) {c1 e1 c2 e2 : Int} (a0 : 0 ≤ c1) (a1 : c1 ≤ 127) (b0 : 0 ≤ c2) (b1 : c2 ≤ 127) {g g' : Ps → Ls} (hg : ∀ p, g p = g' p) : ∀ {n : Nat} {x : Ls}, lmore t en c1 e1 c2 e2 g n x = lmore t' en c1 e1 c2 e2 g' n x
  | 0, _ => rfl
  | n + 1, x => by
    have e : ∀ t g, lmore t en c1 e1 c2 e2 g (n + 1) x = if zskip t en c1 x.1 = true then lmore t en c1 e1 c2 e2 g n ((g (x.1.1 + 1, -1)).1, (x.2 ++ (g (x.1.1 + 1, -1)).2) ++ [e1])
      else if zskip t en c2 x.1 = true then lmore t en c1 e1 c2 e2 g n ((g (x.1.1 + 1, -1)).1, (x.2 ++ (g (x.1.1 + 1, -1)).2) ++ [e2]) else x := fun _ _ => rfl
    rw [e, e, h.skip a0 a1, h.skip b0 b1, hg, h.more a0 a1 b0 b1 hg, h.more a0 a1 b0 b1 hg]
theorem Tal.sum (h : Tal t t' en) {g g' : Ps → Ls} (hg : ∀ p, g p = g' p) {p : Ps} : lsum t en (lprod t en g) p = lsum t' en (lprod t' en g') p := by
  have e : ∀ p, lprod t en g p = lprod t' en g' p := fun p => by
    unfold lprod
    rw [hg, h.more (by decide) (by decide) (by decide) (by decide) hg]
  unfold lsum
  rw [e, h.more (by decide) (by decide) (by decide) (by decide) e]
theorem Tal.S (h : Tal t t' en) : ∀ {k : Nat} {p : Ps}, lS t en k p = lS t' en k p
  | 0, _ => h.sum (fun _ => h.thing (fun _ => rfl))
  | _ + 1, _ => h.sum (fun _ => h.thing (fun _ => h.S))
theorem Tal.law (h : Tal t t' en) : zlawr t en = zlawr t' en := by
  unfold zlawr
  rw [h.S]
end TAL
