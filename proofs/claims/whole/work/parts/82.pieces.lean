/-! what holds between calls, piece by piece -/
section
variable {G : ct_G} {h h' : ct_H} {hi wi hi' wi' : Nat} {B B' : Int}
theorem IC.gr (ic : IC h hi wi) (fr : ∀ a, 3 ≤ a → a ≤ 21 → h'.1 a = h.1 a) (c : h.1 1 6 < h'.1 1 6) : IC h' hi' wi' := by
  obtain ⟨⟨l1, l2, l3, l4, l5⟩, ⟨d1, d2, d3⟩, ⟨e1, e2, e3⟩⟩ := ic
  refine ⟨⟨?_, ?_, ?_, fun w => ?_, fun w => ?_⟩, ⟨?_, ?_, fun w => ?_⟩, ⟨?_, ?_, fun w => ?_⟩⟩
  · rw [fr 6 (by omega) (by omega)]; exact l1
  · rw [fr 3 (by omega) (by omega)]; omega
  · rw [fr 3 (by omega) (by omega)]; omega
  · rw [fr 3 (by omega) (by omega)] at w; omega
  · rw [fr 3 (by omega) (by omega)] at w; omega
  · rw [fr 9 (by omega) (by omega)]; exact d1
  · rw [fr 8 (by omega) (by omega)]; omega
  · rw [fr 8 (by omega) (by omega)] at w; omega
  · rw [fr 16 (by omega) (by omega)]; exact e1
  · rw [fr 15 (by omega) (by omega)]; omega
  · rw [fr 15 (by omega) (by omega)] at w; omega
theorem IW.fr (i : IW h) (f : ∀ a, (22 ≤ a ∧ a ≤ 35) ∨ a = 62 → h'.1 a = h.1 a) : IW h' := by
  unfold IW
  rw [f 22 (by omega), f 27 (by omega), f 24 (by omega), f 30 (by omega), f 29 (by omega), f 62 (by omega)]
  exact i
theorem IRow.fr {o a b f x y k : Nat} (i : IRow h o a b f x y k) (e1 : h'.1 o = h.1 o) (e2 : h'.1 a = h.1 a) (e3 : h'.1 b = h.1 b) (e4 : h'.1 73 f = h.1 73 f) (e5 : h'.1 x = h.1 x) (e6 : h'.1 y = h.1 y) : IRow h' o a b f x y k := by
  unfold IRow
  rw [e1, e2, e3, e4, e5, e6]
  exact i
theorem IEv.fr {o a b : Nat} (i : IEv h o a b) (e1 : h'.1 o = h.1 o) (e2 : h'.1 a = h.1 a) (e3 : h'.1 b = h.1 b) : IEv h' o a b := by
  unfold IEv
  rw [e1, e2, e3]
  exact i
theorem IIm.fr (i : IIm G h) (f : ∀ a, (62 ≤ a ∧ a ≤ 72) ∨ (93 ≤ a ∧ a ≤ 101) → h'.1 a = h.1 a) (f0 : h'.1 0 12 = h.1 0 12) (f1 : h'.1 73 35 = h.1 73 35) : IIm G h' := by
  have g62 : ∀ hi wi, GR G h 62 63 hi wi → GR G h' 62 63 hi wi := fun hi wi g => GR_congr g (f 62 (by omega))
  unfold IIm at i ⊢
  rw [f0, f1, f 63 (by omega), f 94 (by omega), f 93 (by omega), f 62 (by omega)]
  unfold IRo2 IEv at i ⊢
  rw [f 64 (by omega), f 65 (by omega), f 66 (by omega), f 93 (by omega), f 96 (by omega), f 97 (by omega), f 67 (by omega), f 68 (by omega), f 69 (by omega), f 98 (by omega), f 99 (by omega), f 70 (by omega), f 71 (by omega), f 72 (by omega), f 100 (by omega), f 101 (by omega)]
  rcases i with w | ⟨w1, w2, ⟨hi', wi', w3, w4⟩, w5⟩
  · exact Or.inl w
  · exact Or.inr ⟨w1, w2, ⟨hi', wi', g62 _ _ w3, w4⟩, w5⟩
theorem ITx.fr (i : ITx h) (e1 : h'.1 45 1 = h.1 45 1) (e2 : h'.1 46 = h.1 46) (e3 : h'.1 75 = h.1 75) (e4 : h'.1 73 5 = h.1 73 5) : ITx h' := by
  unfold ITx
  rw [e1, e2, e3, e4]
  exact i
theorem ITp.fr (i : ITp h) (f : ∀ a, (50 ≤ a ∧ a ≤ 61) ∨ (102 ≤ a ∧ a ≤ 103) → h'.1 a = h.1 a) (e : h'.2 = h.2) : ITp h' := by
  intro t ht
  have := i t ht
  rw [f (50 + 2 * t) (by omega), f 102 (by omega), f 103 (by omega), e]
  exact this
theorem IG.fr (i : IG G h hi wi) (f1 : h'.1 1 = h.1 1) (f2 : h'.1 2 = h.1 2) (f74 : h'.1 74 = h.1 74) (f73 : ∀ j, j ≤ 2 → h'.1 73 j = h.1 73 j) : IG G h' hi wi := by
  obtain ⟨i1, ⟨m1, m2, m3, m4, m5, m6⟩, i3, i4, i5, i6⟩ := i
  exact ⟨GR_congr i1 f1, ⟨m1, m2, m3, by rw [f73 0 (by omega)]; exact m4, by rw [f73 1 (by omega)]; exact m5, m6⟩, by rw [f2, f74]; exact i3, by rw [f1]; exact i4, by rw [f1, f73 2 (by omega)]; exact i5, by rw [f1]; exact i6⟩
theorem IG.cg (ig : IG G h hi wi) : CG G h 1 2 hi wi (h.1 1 5) (h.1 74) ∧ RG G h hi wi (h.1 1 5) (h.1 74) := ⟨⟨ig.1, ig.2.2.1, rfl⟩, ⟨ig.2.1, fun _ _ => rfl, ig.2.2.2.2.1⟩⟩
theorem IG.of {kd : Int} {M : Nat → Int} (cg : CG G h 1 2 hi wi kd M) (rg : RG G h hi wi kd M) (hk : 0 ≤ kd ∧ kd ≤ 4) (h0 : 0 ≤ h.1 1 6) : IG G h hi wi := by
  refine ⟨cg.1, rg.1, ⟨fun p hp => ?_, cg.2.1.2⟩, by rw [cg.2.2]; exact hk, rg.2.2.trans cg.2.2.symm, h0⟩
  rw [rg.2.1 p hp]
  exact cg.2.1.1 p hp
theorem CG.fr {o c : Nat} {kd : Int} {M : Nat → Int} (g : CG G h o c hi wi kd M) (e1 : h'.1 o = h.1 o) (e2 : h'.1 c = h.1 c) : CG G h' o c hi wi kd M := ⟨GR_congr g.1 e1, by rw [e2]; exact g.2.1, by rw [e1]; exact g.2.2⟩
theorem RG.fr {kd : Int} {M : Nat → Int} (g : RG G h hi wi kd M) (e1 : ∀ j, j ≤ 2 → h'.1 73 j = h.1 73 j) (e2 : h'.1 74 = h.1 74) : RG G h' hi wi kd M := by
  obtain ⟨⟨m1, m2, m3, m4, m5, m6⟩, g2, g3⟩ := g
  exact ⟨⟨m1, m2, m3, by rw [e1 0 (by omega)]; exact m4, by rw [e1 1 (by omega)]; exact m5, m6⟩, by rw [e2]; exact g2, by rw [e1 2 (by omega)]; exact g3⟩
theorem IC.st (ic : IC h hi wi) (g : GR G h 1 2 hi wi) (g' : GR G h' 1 2 hi' wi') (fr : ∀ a, 3 ≤ a → a ≤ 21 → h'.1 a = h.1 a) (c : (h'.1 1 = h.1 1 ∧ h'.1 2 = h.1 2) ∨ h.1 1 6 < h'.1 1 6) : IC h' hi' wi' := by
  rcases c with ⟨c1, c2⟩ | c
  · have a1 := g.2.2.2.1
    have a2 := g.2.2.2.2.1
    have b1 := g'.2.2.2.1
    have b2 := g'.2.2.2.2.1
    rw [c1] at b1 b2
    have e1 : hi' = hi := by omega
    have e2 : wi' = wi := by omega
    subst e1; subst e2
    refine ic.fr (fun a x y => ?_)
    by_cases z1 : a = 1
    · rw [z1]; exact c1
    · by_cases z2 : a = 2
      · rw [z2]; exact c2
      · exact fr a (by omega) y
  · exact ic.gr fr c
/-- a changed ground, a changed text -/
theorem INV.gnd (inv : INV G h hi wi B) (fr : ∀ a, a ≠ 1 → a ≠ 2 → ¬ (45 ≤ a ∧ a ≤ 48) → ¬ (73 ≤ a ∧ a ≤ 77) → h'.1 a = h.1 a) (fr73 : ∀ j, 3 ≤ j → j ≠ 5 → j ≠ 8 → j ≠ 9 → h'.1 73 j = h.1 73 j) (l : h'.2 = h.2) (c : (h'.1 1 = h.1 1 ∧ h'.1 2 = h.1 2) ∨ h.1 1 6 < h'.1 1 6) (ge : h.1 1 6 ≤ h'.1 1 6) (le : h'.1 1 6 ≤ B') (BB : B ≤ B') {kd : Int} {M : Nat → Int} (cg : CG G h' 1 2 hi' wi' kd M) (rg : RG G h' hi' wi' kd M) (hk : 0 ≤ kd ∧ kd ≤ 4) (tx : ITx h') : INV G h' hi' wi' B' := by
  obtain ⟨a1, a2, a3, ⟨a4, a5, a6⟩, a7, a8, a9, a10, a11⟩ := inv
  have a16 := a1.2.2.2.2.2
  refine ⟨IG.of cg rg hk (by omega), a2.st a1.1 cg.1 (fun a x y => fr a (by omega) (by omega) (by omega) (by omega)) c, a3.fr (fun a _ => fr a (by omega) (by omega) (by omega) (by omega)), ⟨?_, ?_, ?_⟩, ?_, ?_, tx, ?_, le, ?_, ?_⟩
  · exact a4.fr (fr 36 (by omega) (by omega) (by omega) (by omega)) (fr 37 (by omega) (by omega) (by omega) (by omega)) (fr 38 (by omega) (by omega) (by omega) (by omega)) (fr73 24 (by omega) (by omega) (by omega) (by omega)) (fr 86 (by omega) (by omega) (by omega) (by omega)) (fr 87 (by omega) (by omega) (by omega) (by omega))
  · exact a5.fr (fr 39 (by omega) (by omega) (by omega) (by omega)) (fr 40 (by omega) (by omega) (by omega) (by omega)) (fr 41 (by omega) (by omega) (by omega) (by omega)) (fr73 27 (by omega) (by omega) (by omega) (by omega)) (fr 88 (by omega) (by omega) (by omega) (by omega)) (fr 89 (by omega) (by omega) (by omega) (by omega))
  · exact a6.fr (fr 42 (by omega) (by omega) (by omega) (by omega)) (fr 43 (by omega) (by omega) (by omega) (by omega)) (fr 44 (by omega) (by omega) (by omega) (by omega)) (fr73 31 (by omega) (by omega) (by omega) (by omega)) (fr 91 (by omega) (by omega) (by omega) (by omega)) (fr 92 (by omega) (by omega) (by omega) (by omega))
  · exact a7.fr (fr 39 (by omega) (by omega) (by omega) (by omega)) (fr 40 (by omega) (by omega) (by omega) (by omega)) (fr 41 (by omega) (by omega) (by omega) (by omega))
  · exact a8.fr (fun a _ => fr a (by omega) (by omega) (by omega) (by omega)) (by rw [fr 0 (by omega) (by omega) (by omega) (by omega)]) (fr73 35 (by omega) (by omega) (by omega) (by omega))
  · exact a10.fr (fun a _ => fr a (by omega) (by omega) (by omega) (by omega)) l
  · rw [fr 22 (by omega) (by omega) (by omega) (by omega)]; have := a11.2.1; omega
  · rw [fr 62 (by omega) (by omega) (by omega) (by omega)]; have := a11.2.2; omega
theorem INV.mono (inv : INV G h hi wi B) (BB : B ≤ B') : INV G h hi wi B' := by
  obtain ⟨a1, a2, a3, a4, a7, a8, a9, a10, a11⟩ := inv
  exact ⟨a1, a2, a3, a4, a7, a8, a9, a10, by omega, by omega, by omega⟩
/-- changed rows -/
theorem INV.rows (inv : INV G h hi wi B) (fr : ∀ a, ¬ (36 ≤ a ∧ a ≤ 44) → ¬ (86 ≤ a ∧ a ≤ 92) → a ≠ 73 → h'.1 a = h.1 a) (fr73 : ∀ j, j ≠ 24 → j ≠ 27 → j ≠ 31 → h'.1 73 j = h.1 73 j) (l : h'.2 = h.2) (r1 : IRow h' 36 37 38 24 86 87 6) (r2 : IRow h' 39 40 41 27 88 89 8) (r3 : IRow h' 42 43 44 31 91 92 8) (ev : IEv h' 39 40 41) : INV G h' hi wi B := by
  obtain ⟨a1, a2, a3, a4, a7, a8, a9, a10, a11⟩ := inv
  refine ⟨a1.fr (fr 1 (by omega) (by omega) (by omega)) (fr 2 (by omega) (by omega) (by omega)) (fr 74 (by omega) (by omega) (by omega)) (fun j _ => fr73 j (by omega) (by omega) (by omega)), a2.fr (fun a _ _ => fr a (by omega) (by omega) (by omega)), a3.fr (fun a _ => fr a (by omega) (by omega) (by omega)), ⟨r1, r2, r3⟩, ev, ?_, ?_, ?_, ?_⟩
  · exact a8.fr (fun a _ => fr a (by omega) (by omega) (by omega)) (by rw [fr 0 (by omega) (by omega) (by omega)]) (fr73 35 (by omega) (by omega) (by omega))
  · exact a9.fr (by rw [fr 45 (by omega) (by omega) (by omega)]) (fr 46 (by omega) (by omega) (by omega)) (fr 75 (by omega) (by omega) (by omega)) (fr73 5 (by omega) (by omega) (by omega))
  · exact a10.fr (fun a _ => fr a (by omega) (by omega) (by omega)) l
  · rw [fr 1 (by omega) (by omega) (by omega), fr 22 (by omega) (by omega) (by omega), fr 62 (by omega) (by omega) (by omega)]
    exact a11
/-- changed tapes -/
theorem INV.tapes (inv : INV G h hi wi B) (fr : ∀ a, ¬ (50 ≤ a ∧ a ≤ 61) → ¬ (102 ≤ a ∧ a ≤ 103) → h'.1 a = h.1 a) (tp : ITp h') : INV G h' hi wi B := by
  obtain ⟨a1, a2, a3, ⟨a4, a5, a6⟩, a7, a8, a9, a10, a11⟩ := inv
  have f := fun a b c => fr a b c
  have f73 : h'.1 73 = h.1 73 := fr 73 (by omega) (by omega)
  refine ⟨a1.fr (fr 1 (by omega) (by omega)) (fr 2 (by omega) (by omega)) (fr 74 (by omega) (by omega)) (fun j _ => by rw [f73]), a2.fr (fun a _ _ => fr a (by omega) (by omega)), a3.fr (fun a _ => fr a (by omega) (by omega)), ⟨?_, ?_, ?_⟩, ?_, ?_, ?_, tp, ?_⟩
  · exact a4.fr (fr 36 (by omega) (by omega)) (fr 37 (by omega) (by omega)) (fr 38 (by omega) (by omega)) (by rw [f73]) (fr 86 (by omega) (by omega)) (fr 87 (by omega) (by omega))
  · exact a5.fr (fr 39 (by omega) (by omega)) (fr 40 (by omega) (by omega)) (fr 41 (by omega) (by omega)) (by rw [f73]) (fr 88 (by omega) (by omega)) (fr 89 (by omega) (by omega))
  · exact a6.fr (fr 42 (by omega) (by omega)) (fr 43 (by omega) (by omega)) (fr 44 (by omega) (by omega)) (by rw [f73]) (fr 91 (by omega) (by omega)) (fr 92 (by omega) (by omega))
  · exact a7.fr (fr 39 (by omega) (by omega)) (fr 40 (by omega) (by omega)) (fr 41 (by omega) (by omega))
  · exact a8.fr (fun a _ => fr a (by omega) (by omega)) (by rw [fr 0 (by omega) (by omega)]) (by rw [f73])
  · exact a9.fr (by rw [fr 45 (by omega) (by omega)]) (fr 46 (by omega) (by omega)) (fr 75 (by omega) (by omega)) (by rw [f73])
  · rw [fr 1 (by omega) (by omega), fr 22 (by omega) (by omega), fr 62 (by omega) (by omega)]
    exact a11
/-- two calls that change the ground -/
theorem SAM.gnd {P : Option (Int × ct_H)} {Q : ct_H → Option (Int × ct_H)} (inv : INV G h hi wi B) {r kd : Int} {h1 : ct_H} {M : Nat → Int} (a : P = some (r, h1)) (cg : CG G h1 1 2 hi' wi' kd M) (ct : CT h 1 2 500 h1) (hk : 0 ≤ kd ∧ kd ≤ 4) (b : ∃ h2 : ct_H, Q h1 = some (r, h2) ∧ RG G h2 hi' wi' kd M ∧ RTT h1 h2) : SAM G hi wi (B + 7000) P Q := by
  obtain ⟨h2, b1, b2, b3⟩ := b
  have r1 : h2.1 1 = h1.1 1 := b3.1 1 (by omega) (by omega)
  have r2 : h2.1 2 = h1.1 2 := b3.1 2 (by omega) (by omega)
  have fr : ∀ a, a ≠ 1 → a ≠ 2 → a ≠ 73 → a ≠ 74 → h2.1 a = h.1 a := fun a x1 x2 x3 x4 => (b3.1 a x3 x4).trans (ct.1 a x1 x2)
  have f73 : ∀ j, 3 ≤ j → h2.1 73 j = h.1 73 j := fun j hj => (b3.2.1 j hj).trans (by rw [ct.1 73 (by omega) (by omega)])
  have c3 := ct.2.2.1
  have c4 := ct.2.2.2.1
  have c5 := ct.2.2.2.2
  have bb := inv.2.2.2.2.2.2.2.2.1
  refine ⟨r, h1, h2, a, b1, hi', wi', inv.gnd (fun a x1 x2 x3 x4 => fr a x1 x2 (by omega) (by omega)) (fun j j1 _ _ _ => f73 j j1) (b3.2.2.trans ct.2.1) (by rw [r1, r2]; exact c3) (by rw [r1]; exact c4) (by rw [r1]; omega) (by omega) (cg.fr r1 r2) b2 hk ?_⟩
  exact inv.2.2.2.2.2.2.1.fr (by rw [fr 45 (by omega) (by omega) (by omega) (by omega)]) (fr 46 (by omega) (by omega) (by omega) (by omega)) (fr 75 (by omega) (by omega) (by omega) (by omega)) (f73 5 (by omega))
theorem SAM.same {P : Option (Int × ct_H)} {Q : ct_H → Option (Int × ct_H)} (inv : INV G h hi wi B) {r : Int} (a : P = some (r, h)) (b : Q h = some (r, h)) : SAM G hi wi (B + 7000) P Q := ⟨r, h, h, a, b, hi, wi, inv.mono (by omega)⟩
theorem SAM.row {P : Option (Int × ct_H)} {Q : ct_H → Option (Int × ct_H)} {r : Int} {h1 h2 : ct_H} (a : P = some (r, h1)) (b : Q h1 = some (r, h2)) (inv : INV G h2 hi' wi' B) : SAM G hi wi (B + 7000) P Q := ⟨r, h1, h2, a, b, hi', wi', inv.mono (by omega)⟩
end
