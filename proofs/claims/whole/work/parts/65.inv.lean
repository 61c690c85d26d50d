/-! the shape of all cells, and what holds between calls -/
def TOP (G : ct_G) : Prop := G.1 0 0 = 1 ∧ G.1 0 1 = 3 ∧ G.1 0 2 = 8 ∧ G.1 0 3 = 15 ∧ G.1 0 4 = 22 ∧ G.1 0 5 = 24 ∧ G.1 0 6 = 29 ∧ G.1 0 7 = 36 ∧ G.1 0 8 = 39 ∧ G.1 0 9 = 42 ∧ G.1 0 10 = 45 ∧ G.1 0 11 = 49 ∧ G.1 0 13 = 62 ∧ G.1 0 14 = 64 ∧ G.1 0 15 = 67 ∧ G.1 0 16 = 70
def GRD (G : ct_G) (o c : Nat) : Prop := G.1 o 0 = c ∧ G.2 c = 81
def RWS (G : ct_G) (o a b n : Nat) : Prop := G.1 o 0 = a ∧ G.2 a = n ∧ G.1 o 1 = b ∧ G.2 b = n
def TXT (G : ct_G) : Prop := G.1 45 0 = 46 ∧ G.2 46 = 100 ∧ G.1 45 2 = 47 ∧ G.2 47 = 12 ∧ G.1 45 3 = 48 ∧ G.2 48 = 36 ∧ G.1 73 4 = 75 ∧ G.2 75 = 100 ∧ G.1 73 6 = 76 ∧ G.2 76 = 12 ∧ G.1 73 7 = 77 ∧ G.2 77 = 36
def TAP (G : ct_G) : Prop := G.2 49 = 6 ∧ (∀ t, t < 6 → G.1 49 t = 50 + 2 * t ∧ G.1 (50 + 2 * t) 0 = 51 + 2 * t ∧ G.2 (51 + 2 * t) = 60) ∧ G.1 73 36 = 102 ∧ G.2 102 = 6 ∧ G.1 73 37 = 103 ∧ G.2 103 = 6 ∧ G.1 73 38 = 104 ∧ G.2 104 = 6 ∧ ∀ t, t < 6 → G.1 104 t = 105 + t ∧ G.2 (105 + t) = 60
def REF (G : ct_G) : Prop := (G.1 73 3 = 74 ∧ G.2 74 = 49 ∧ G.1 73 20 = 84 ∧ G.2 84 = 49 ∧ G.1 73 21 = 85 ∧ G.2 85 = 49) ∧ (G.1 73 22 = 86 ∧ G.2 86 = 6 ∧ G.1 73 23 = 87 ∧ G.2 87 = 6) ∧ (G.1 73 25 = 88 ∧ G.2 88 = 8 ∧ G.1 73 26 = 89 ∧ G.2 89 = 8) ∧ (G.1 73 28 = 90 ∧ G.2 90 = 49) ∧ (G.1 73 29 = 91 ∧ G.2 91 = 8 ∧ G.1 73 30 = 92 ∧ G.2 92 = 8) ∧ (G.1 73 32 = 93 ∧ G.2 93 = 6 ∧ G.1 73 33 = 94 ∧ G.2 94 = 49 ∧ G.1 73 34 = 95 ∧ G.2 95 = 6 ∧ ∀ t, t < 6 → G.1 95 t = 96 + t ∧ G.2 (96 + t) = 8)
def GS (G : ct_G) : Prop := TOP G ∧ (GRD G 1 2 ∧ GRD G 22 23 ∧ GRD G 62 63) ∧ (LO G 3 1 2 4 5 6 7 ∧ LO G 24 22 23 25 26 27 28) ∧ (DO G 8 1 2 9 10 11 12 13 14 ∧ DO G 15 1 2 16 17 18 19 20 21 ∧ DO G 29 22 23 30 31 32 33 34 35) ∧ (RWS G 36 37 38 6 ∧ RWS G 39 40 41 8 ∧ RWS G 42 43 44 8 ∧ RWS G 64 65 66 6 ∧ RWS G 67 68 69 8 ∧ RWS G 70 71 72 8) ∧ TXT G ∧ TAP G ∧ REF G ∧ MO G 73 74 78 79 80 81 ∧ MP G 73 74 82 83
def IG (G : ct_G) (h : ct_H) (hi wi : Nat) : Prop := GR G h 1 2 hi wi ∧ MD G h 73 74 hi wi ∧ RH (h.1 2) (h.1 74) hi wi ∧ (0 ≤ h.1 1 5 ∧ h.1 1 5 ≤ 4) ∧ h.1 73 2 = h.1 1 5 ∧ 0 ≤ h.1 1 6
def IC (h : ct_H) (hi wi : Nat) : Prop := LV h 3 1 2 4 5 6 7 hi wi ∧ DV h 8 1 2 9 10 11 12 13 hi wi ∧ DV h 15 1 2 16 17 18 19 20 hi wi
def IW (h : ct_H) : Prop := 0 ≤ h.1 22 6 ∧ h.1 27 0 = 0 ∧ h.1 24 7 ≤ h.1 22 6 ∧ h.1 24 8 ≤ h.1 22 6 ∧ UF (h.1 30) ∧ h.1 29 9 ≤ h.1 22 6 ∧ 0 ≤ h.1 62 6
def IRow (h : ct_H) (o a b f x y k : Nat) : Prop := ∃ n : Nat, n ≤ k ∧ h.1 o 2 = (n : Int) ∧ h.1 73 f = (n : Int) ∧ ∀ i, i < n → h.1 a i = h.1 x i ∧ h.1 b i = h.1 y i
def evOk (a b : Int) : Prop := (0 ≤ a ∧ a ≤ 4) ∧ (a = 2 → 0 ≤ b ∧ b ≤ 99) ∧ (a = 3 → 0 ≤ b ∧ b ≤ 4)
def IEv (h : ct_H) (o a b : Nat) : Prop := ∀ i : Nat, (i : Int) < h.1 o 2 → evOk (h.1 a i) (h.1 b i)
def IRo2 (h : ct_H) (o a b f x y k : Nat) : Prop := ∃ n : Nat, n ≤ k ∧ h.1 o 2 = (n : Int) ∧ h.1 93 f = (n : Int) ∧ ∀ i, i < n → h.1 a i = h.1 x i ∧ h.1 b i = h.1 y i
def IIm (G : ct_G) (h : ct_H) : Prop := (h.1 0 12 = 0 ∧ h.1 73 35 = 0) ∨ (h.1 0 12 = 1 ∧ h.1 73 35 = 1 ∧ (∃ hi wi : Nat, GR G h 62 63 hi wi ∧ RH (h.1 63) (h.1 94) hi wi ∧ h.1 93 0 = (hi : Int) ∧ h.1 93 1 = (wi : Int)) ∧ (0 ≤ h.1 62 5 ∧ h.1 62 5 ≤ 4) ∧ h.1 93 2 = h.1 62 5 ∧ IRo2 h 64 65 66 3 96 97 6 ∧ IRo2 h 67 68 69 4 98 99 8 ∧ IRo2 h 70 71 72 5 100 101 8 ∧ IEv h 67 68 69)
def ITx (h : ct_H) : Prop := ∃ n : Nat, n ≤ 100 ∧ h.1 45 1 = (n : Int) ∧ h.1 73 5 = (n : Int) ∧ ∀ i, i < n → h.1 46 i = h.1 75 i ∧ 0 ≤ h.1 46 i ∧ h.1 46 i ≤ 127
def ITp (h : ct_H) : Prop := ∀ t, t < 6 → h.1 (50 + 2 * t) 1 = h.1 102 t ∧ h.1 (50 + 2 * t) 2 = h.1 103 t ∧ (∀ i, i < 60 → h.2 (51 + 2 * t) i = h.2 (105 + t) i) ∧ (-1 ≤ h.1 102 t ∧ h.1 102 t ≤ 4) ∧ (0 ≤ h.1 103 t ∧ h.1 103 t ≤ 60) ∧ (h.1 102 t = -1 → h.1 103 t = 0)
def INV (G : ct_G) (h : ct_H) (hi wi : Nat) (B : Int) : Prop := IG G h hi wi ∧ IC h hi wi ∧ IW h ∧ (IRow h 36 37 38 24 86 87 6 ∧ IRow h 39 40 41 27 88 89 8 ∧ IRow h 42 43 44 31 91 92 8) ∧ IEv h 39 40 41 ∧ IIm G h ∧ ITx h ∧ ITp h ∧ (h.1 1 6 ≤ B ∧ h.1 22 6 ≤ B ∧ h.1 62 6 ≤ B)
/-- what a call that only asks may change -/
def QF (h h' : ct_H) : Prop := (∀ a, ¬ (3 ≤ a ∧ a ≤ 21) → ¬ (78 ≤ a ∧ a ≤ 85) → a ≠ 73 → h'.1 a = h.1 a) ∧ (∀ j, j ≠ 14 → j ≠ 15 → j ≠ 18 → j ≠ 19 → h'.1 73 j = h.1 73 j) ∧ h'.2 = h.2
theorem QF.refl {h : ct_H} : QF h h := ⟨fun _ _ _ _ => rfl, fun _ _ _ _ _ => rfl, rfl⟩
theorem QF.trans {h h' h'' : ct_H} (a : QF h h') (b : QF h' h'') : QF h h'' := ⟨fun x x1 x2 x3 => (b.1 x x1 x2 x3).trans (a.1 x x1 x2 x3), fun j j1 j2 j3 j4 => (b.2.1 j j1 j2 j3 j4).trans (a.2.1 j j1 j2 j3 j4), b.2.2.trans a.2.2⟩
section
variable {G : ct_G} {h h' : ct_H} {hi wi : Nat} {B : Int}
theorem IG.q (i : IG G h hi wi) (q : QF h h') : IG G h' hi wi := by
  obtain ⟨i1, i2, i3, i4, i5, i6⟩ := i
  have q1 := q.1 1 (by omega) (by omega) (by omega)
  have q2 := q.1 2 (by omega) (by omega) (by omega)
  have q74 := q.1 74 (by omega) (by omega) (by omega)
  obtain ⟨m1, m2, m3, m4, m5, m6⟩ := i2
  exact ⟨GR_congr i1 q1, ⟨m1, m2, m3, by rw [q.2.1 0 (by omega) (by omega) (by omega) (by omega)]; exact m4, by rw [q.2.1 1 (by omega) (by omega) (by omega) (by omega)]; exact m5, m6⟩, by rw [q2, q74]; exact i3, by rw [q1]; exact i4, by rw [q1, q.2.1 2 (by omega) (by omega) (by omega) (by omega)]; exact i5, by rw [q1]; exact i6⟩
theorem INV.q (i : INV G h hi wi B) (q : QF h h') (ic : IC h' hi wi) : INV G h' hi wi B := by
  obtain ⟨a1, a2, a3, ⟨a4, a5, a6⟩, a7, a8, a9, a10, a11⟩ := i
  have q73 := fun j b1 b2 b3 b4 => q.2.1 j b1 b2 b3 b4
  have qx := q.1
  refine ⟨a1.q q, ic, ?_, ⟨?_, ?_, ?_⟩, ?_, ?_, ?_, ?_, ?_⟩
  · unfold IW
    rw [qx 22 (by omega) (by omega) (by omega), qx 27 (by omega) (by omega) (by omega), qx 24 (by omega) (by omega) (by omega), qx 30 (by omega) (by omega) (by omega), qx 29 (by omega) (by omega) (by omega), qx 62 (by omega) (by omega) (by omega)]
    exact a3
  · unfold IRow
    rw [qx 36 (by omega) (by omega) (by omega), qx 37 (by omega) (by omega) (by omega), qx 38 (by omega) (by omega) (by omega), qx 86 (by omega) (by omega) (by omega), qx 87 (by omega) (by omega) (by omega), q73 24 (by omega) (by omega) (by omega) (by omega)]
    exact a4
  · unfold IRow
    rw [qx 39 (by omega) (by omega) (by omega), qx 40 (by omega) (by omega) (by omega), qx 41 (by omega) (by omega) (by omega), qx 88 (by omega) (by omega) (by omega), qx 89 (by omega) (by omega) (by omega), q73 27 (by omega) (by omega) (by omega) (by omega)]
    exact a5
  · unfold IRow
    rw [qx 42 (by omega) (by omega) (by omega), qx 43 (by omega) (by omega) (by omega), qx 44 (by omega) (by omega) (by omega), qx 91 (by omega) (by omega) (by omega), qx 92 (by omega) (by omega) (by omega), q73 31 (by omega) (by omega) (by omega) (by omega)]
    exact a6
  · unfold IEv
    rw [qx 39 (by omega) (by omega) (by omega), qx 40 (by omega) (by omega) (by omega), qx 41 (by omega) (by omega) (by omega)]
    exact a7
  · have g62 : ∀ hi wi, GR G h 62 63 hi wi → GR G h' 62 63 hi wi := fun hi wi g => GR_congr g (qx 62 (by omega) (by omega) (by omega))
    unfold IIm at a8 ⊢
    rw [qx 0 (by omega) (by omega) (by omega), q73 35 (by omega) (by omega) (by omega) (by omega), qx 63 (by omega) (by omega) (by omega), qx 94 (by omega) (by omega) (by omega), qx 93 (by omega) (by omega) (by omega), qx 62 (by omega) (by omega) (by omega)]
    unfold IRo2 IEv at a8 ⊢
    rw [qx 64 (by omega) (by omega) (by omega), qx 65 (by omega) (by omega) (by omega), qx 66 (by omega) (by omega) (by omega), qx 93 (by omega) (by omega) (by omega), qx 96 (by omega) (by omega) (by omega), qx 97 (by omega) (by omega) (by omega), qx 67 (by omega) (by omega) (by omega), qx 68 (by omega) (by omega) (by omega), qx 69 (by omega) (by omega) (by omega), qx 98 (by omega) (by omega) (by omega), qx 99 (by omega) (by omega) (by omega), qx 70 (by omega) (by omega) (by omega), qx 71 (by omega) (by omega) (by omega), qx 72 (by omega) (by omega) (by omega), qx 100 (by omega) (by omega) (by omega), qx 101 (by omega) (by omega) (by omega)]
    rcases a8 with w | ⟨w1, w2, ⟨hi', wi', w3, w4⟩, w5⟩
    · exact Or.inl w
    · exact Or.inr ⟨w1, w2, ⟨hi', wi', g62 _ _ w3, w4⟩, w5⟩
  · unfold ITx
    rw [qx 45 (by omega) (by omega) (by omega), qx 46 (by omega) (by omega) (by omega), qx 75 (by omega) (by omega) (by omega), q73 5 (by omega) (by omega) (by omega) (by omega)]
    exact a9
  · intro t ht
    have := a10 t ht
    rw [qx (50 + 2 * t) (by omega) (by omega) (by omega), qx 102 (by omega) (by omega) (by omega), qx 103 (by omega) (by omega) (by omega), q.2.2]
    exact this
  · rw [qx 1 (by omega) (by omega) (by omega), qx 22 (by omega) (by omega) (by omega), qx 62 (by omega) (by omega) (by omega)]
    exact a11
/-! the four works: lines and lands, of the class and of the reference -/
theorem LV.fr (lv : LV h 3 1 2 4 5 6 7 hi wi) (f : ∀ a, (1 ≤ a ∧ a ≤ 7) → h'.1 a = h.1 a) : LV h' 3 1 2 4 5 6 7 hi wi := by
  unfold LV
  rw [f 1 (by omega), f 2 (by omega), f 3 (by omega), f 4 (by omega), f 5 (by omega), f 6 (by omega), f 7 (by omega)]
  exact lv
theorem DV.fr8 (dv : DV h 8 1 2 9 10 11 12 13 hi wi) (f : ∀ a, (a = 1 ∨ a = 2 ∨ (8 ≤ a ∧ a ≤ 13)) → h'.1 a = h.1 a) : DV h' 8 1 2 9 10 11 12 13 hi wi := by
  unfold DV
  rw [f 1 (by omega), f 2 (by omega), f 8 (by omega), f 9 (by omega), f 10 (by omega), f 11 (by omega), f 12 (by omega), f 13 (by omega)]
  exact dv
theorem DV.fr15 (dv : DV h 15 1 2 16 17 18 19 20 hi wi) (f : ∀ a, (a = 1 ∨ a = 2 ∨ (15 ≤ a ∧ a ≤ 20)) → h'.1 a = h.1 a) : DV h' 15 1 2 16 17 18 19 20 hi wi := by
  unfold DV
  rw [f 1 (by omega), f 2 (by omega), f 15 (by omega), f 16 (by omega), f 17 (by omega), f 18 (by omega), f 19 (by omega), f 20 (by omega)]
  exact dv
theorem c_trace (gs : GS G) (ig : IG G h hi wi) (ic : IC h hi wi) {L : Int} (hl : 0 ≤ L ∧ L ≤ 99) : ∃ h' : ct_H, f_X2_trace G h 3 L = some h' ∧ QF h h' ∧ IC h' hi wi ∧ RR (spL (h.1 2) hi wi (h.1 1 5) L) (h'.1 4) (h'.1 5) (h'.1 6) (h'.1 3 5) ∧ h'.1 3 6 = L := by
  have g9 := ig.1.2.2.2.2.2.2.2.2
  obtain ⟨h', e1, e2, e3, e4, e5, e6⟩ := x2_traceV gs.2.2.1.1 ig.1 (ig.2.2.1.RM g9) hl ic.1
  refine ⟨h', e1, ⟨fun a a1 a2 a3 => e6 a (by omega) (by omega) (by omega) (by omega), fun j _ _ _ _ => by rw [e6 73 (by omega) (by omega) (by omega) (by omega)], e5⟩, ⟨e2, ic.2.1.fr8 (fun a ha => e6 a (by omega) (by omega) (by omega) (by omega)), ic.2.2.fr15 (fun a ha => e6 a (by omega) (by omega) (by omega) (by omega))⟩, e3.rr, e4⟩
theorem c_count (gs : GS G) (ig : IG G h hi wi) (ic : IC h hi wi) : ∃ h' : ct_H, f_X2_countLevels G h 3 = some h' ∧ QF h h' ∧ IC h' hi wi ∧ ∀ e, e < 100 → h'.1 7 e = ((spL (h.1 2) hi wi (h.1 1 5) (e : Int)).2.2.2.1 : Nat) := by
  have g9 := ig.1.2.2.2.2.2.2.2.2
  obtain ⟨h', e1, e2, e3, e5, e6⟩ := x2_countLevels gs.2.2.1.1 ig.1 (ig.2.2.1.RM g9) ic.1
  refine ⟨h', e1, ⟨fun a a1 a2 a3 => e6 a (by omega) (by omega) (by omega) (by omega) (by omega), fun j _ _ _ _ => by rw [e6 73 (by omega) (by omega) (by omega) (by omega) (by omega)], e5⟩, ⟨e2, ic.2.1.fr8 (fun a ha => e6 a (by omega) (by omega) (by omega) (by omega) (by omega)), ic.2.2.fr15 (fun a ha => e6 a (by omega) (by omega) (by omega) (by omega) (by omega))⟩, e3⟩
theorem c_find (gs : GS G) (ig : IG G h hi wi) (ic : IC h hi wi) {L : Int} (hl : 0 ≤ L ∧ L ≤ 99) : ∃ h' : ct_H, f_X1_find G h 8 L = some h' ∧ QF h h' ∧ IC h' hi wi ∧ DR (h'.1 10) (h'.1 11) (h'.1 12) (h'.1 13) (h'.1 8 7) (h.1 2) hi wi (h.1 1 5) L ((hi + 2) * (wi + 2)) ∧ ∀ a, ¬ (8 ≤ a ∧ a ≤ 13) → h'.1 a = h.1 a := by
  have g9 := ig.1.2.2.2.2.2.2.2.2
  obtain ⟨h', e1, e2, e3, e4, e5, e6⟩ := x1_findV gs.2.2.2.1.1 ig.1 (ig.2.2.1.RM g9) hl ic.2.1
  refine ⟨h', e1, ⟨fun a a1 a2 a3 => e6 a (by omega) (by omega) (by omega) (by omega) (by omega) (by omega), fun j _ _ _ _ => by rw [e6 73 (by omega) (by omega) (by omega) (by omega) (by omega) (by omega)], e5⟩, ⟨ic.1.fr (fun a ha => e6 a (by omega) (by omega) (by omega) (by omega) (by omega) (by omega)), e2, ic.2.2.fr15 (fun a ha => e6 a (by omega) (by omega) (by omega) (by omega) (by omega) (by omega))⟩, e3, fun a ha => e6 a (by omega) (by omega) (by omega) (by omega) (by omega) (by omega)⟩
theorem c_findU (gs : GS G) (ig : IG G h hi wi) (ic : IC h hi wi) {L : Int} (hl : 0 ≤ L ∧ L ≤ 99) : ∃ h' : ct_H, f_X1_find G h 15 L = some h' ∧ QF h h' ∧ IC h' hi wi ∧ DR (h'.1 17) (h'.1 18) (h'.1 19) (h'.1 20) (h'.1 15 7) (h.1 2) hi wi (h.1 1 5) L ((hi + 2) * (wi + 2)) ∧ ∀ a, ¬ (15 ≤ a ∧ a ≤ 20) → h'.1 a = h.1 a := by
  have g9 := ig.1.2.2.2.2.2.2.2.2
  obtain ⟨h', e1, e2, e3, e4, e5, e6⟩ := x1_findV gs.2.2.2.1.2.1 ig.1 (ig.2.2.1.RM g9) hl ic.2.2
  refine ⟨h', e1, ⟨fun a a1 a2 a3 => e6 a (by omega) (by omega) (by omega) (by omega) (by omega) (by omega), fun j _ _ _ _ => by rw [e6 73 (by omega) (by omega) (by omega) (by omega) (by omega) (by omega)], e5⟩, ⟨ic.1.fr (fun a ha => e6 a (by omega) (by omega) (by omega) (by omega) (by omega) (by omega)), ic.2.1.fr8 (fun a ha => e6 a (by omega) (by omega) (by omega) (by omega) (by omega) (by omega)), e2⟩, e3, fun a ha => e6 a (by omega) (by omega) (by omega) (by omega) (by omega) (by omega)⟩
theorem IC.fr (ic : IC h hi wi) (f : ∀ a, 1 ≤ a → a ≤ 21 → h'.1 a = h.1 a) : IC h' hi wi := ⟨ic.1.fr (fun a ha => f a (by omega) (by omega)), ic.2.1.fr8 (fun a ha => f a (by omega) (by omega)), ic.2.2.fr15 (fun a ha => f a (by omega) (by omega))⟩
theorem r_lines (gs : GS G) (ig : IG G h hi wi) (ic : IC h hi wi) {L : Int} (hl : 0 ≤ L ∧ L ≤ 99) : ∃ h' : ct_H, f_X7_layLines G h 73 L = some h' ∧ QF h h' ∧ IC h' hi wi ∧ RR (spL (h.1 2) hi wi (h.1 1 5) L) (h'.1 79) (h'.1 80) (h'.1 81) (h'.1 73 14) ∧ ∀ a, a ≠ 73 → ¬ (78 ≤ a ∧ a ≤ 81) → h'.1 a = h.1 a := by
  have g8 := ig.1.2.2.2.2.2.2.2.1
  have g9 := ig.1.2.2.2.2.2.2.2.2
  obtain ⟨i1, i2, i3, i4, i5, i6⟩ := ig
  have mf : MF G 73 74 hi wi (h.1 73) := ⟨i2.1, i2.2.1, i2.2.2.2.1, i2.2.2.2.2.1, g8, g9, by omega, by omega⟩
  obtain ⟨h', e1, e2, e3, e4, e5⟩ := m_layLines gs.2.2.2.2.2.2.2.2.1 mf i3 (i3.RM g9) hl
  rw [i5] at e2
  refine ⟨h', e1, ⟨fun a a1 a2 a3 => e5 a a3 (by omega) (by omega) (by omega) (by omega), fun j j1 j2 j3 j4 => e4 j j1 j2, e3⟩, ic.fr (fun a a1 a2 => e5 a (by omega) (by omega) (by omega) (by omega) (by omega)), e2.rr, fun a a1 a2 => e5 a a1 (by omega) (by omega) (by omega) (by omega)⟩
theorem r_lands (gs : GS G) (ig : IG G h hi wi) (ic : IC h hi wi) {L : Int} (hl : 0 ≤ L ∧ L ≤ 99) : ∃ h' : ct_H, f_X7_layLands G h 73 L = some h' ∧ QF h h' ∧ IC h' hi wi ∧ h'.1 73 18 = nmb (h.1 2) hi wi (h.1 1 5) L ((hi + 2) * (wi + 2)) ∧ (∀ x, x < hi * wi → LD (h.1 2) hi wi (h.1 1 5) L (plc wi x) (h'.1 82 x)) ∧ (∀ j, j ≠ 18 → j ≠ 19 → h'.1 73 j = h.1 73 j) ∧ ∀ a, a ≠ 73 → ¬ (82 ≤ a ∧ a ≤ 83) → h'.1 a = h.1 a := by
  have g9 := ig.1.2.2.2.2.2.2.2.2
  obtain ⟨i1, i2, i3, i4, i5, i6⟩ := ig
  obtain ⟨h', e1, e2, e3, e4, e5, e6⟩ := m_layLands gs.2.2.2.2.2.2.2.2.2 hl i4 (i3.RM g9) i2 i3 i5
  refine ⟨h', e1, ⟨fun a a1 a2 a3 => e6 a a3 (by omega) (by omega), fun j j1 j2 j3 j4 => e4 j j3 j4, e5⟩, ic.fr (fun a a1 a2 => e6 a (by omega) (by omega) (by omega)), e2, e3, e4, fun a a1 a2 => e6 a a1 (by omega) (by omega)⟩
end
