/-! The law begins: both are made. -/
section LS
variable {h : zH}
theorem mkO_nw (h : zH) (t n : Nat) : mkO h (nw h t n) (nx h) t [] [] n := by
  refine ⟨by rw [nxN]; rfl, by rw [tgN, if_pos rfl], fun b hb => ?_, fun b k b0 b1 => ?_, fun i d hi => (by cases hi), fun r hr => (by cases hr), by rw [scN]⟩
  · exact ⟨fun k => ⟨by rw [gN, if_neg (by omega)], by rw [gRN, if_neg (by omega)]⟩, by rw [tgN, if_neg (by omega)], by rw [lnN, if_neg (by omega)]⟩
  · rw [nxN] at b1
    rw [gN, if_pos (by omega)]
def tA : Int → Int := fun i => if i = 0 then 97 else -1
theorem tA_ok : tOk tA 1 := by
  refine ⟨by omega, by omega, fun i => ⟨fun q => ?_, fun q => ?_⟩⟩
  · unfold tA; rw [if_pos (by omega)]; omega
  · unfold tA; rw [if_neg (by omega)]
theorem tA_rd : (pread tA 1).1 = true := by decide +kernel
theorem tA_s : sK (tA, 1) := sF_of tA_ok tA_rd
theorem gTs_0 {rt : Int → Int → Int} {rs : Int → pS} : gTs (fun _ => 0) rt rs = [] := by
  have key : ∀ (f : Nat) (x : Int) (E : tsl → tsl → Prop) (Rw : Int → List tst) (G : List tnd), trS E (fun _ => 0) Rw f x G = G := by
    intro f
    induction f with
    | zero => intro x E Rw G; rfl
    | succ f ih => intro x E Rw G; rw [trS, if_pos rfl]; exact ih _ _ _ _
  unfold gTs
  exact key _ _ _ _ _
theorem nTs_0 {rt : Int → Int → Int} {rs : Int → pS} : nTs (fun _ => 0) rt rs 8 0 0 = 0 := by
  have key : ∀ (f : Nat) (x c : Int), nTs (fun _ => 0) rt rs f x c = c := by
    intro f
    induction f with
    | zero => intro x c; rfl
    | succ f ih => intro x c; rw [nTs, if_pos rfl]; exact ih _ _
  exact key _ _ _
/-- the start of all -/
theorem ci0 {h0 h1 h2 h3 : zH} {n m : Nat} {R : List (Int × Nat)} (x : x0 h0 h1 n) (y : xN h1 5 tA 1 (qN (tA, 1)) (qC (tA, 1)) (qT (tA, 1)) (qK (tA, 1))) (k : mkO h1 h2 127 11 [(40, 2709), (40, 5418), (41, 2), (40, 2408), (42, 300), (40, 302), (40, 600), (40, 450), (40, 16), (40, 600), (40, 450), (40, 3936), (40, 16), (40, 492), (40, 2), (40, 26), (40, 21), (40, 3), (40, 26), (40, 26), (40, 21), (40, 21), (40, 8), (40, 320), (40, 320), (40, 320), (40, 6720), (40, 320), (40, 6720), (40, 21), (40, 26), (40, 546), (40, 320), (40, 320), (41, 320), (40, 60), (40, 60), (40, 60), (42, 7000), (40, 26), (40, 26), (40, 2107)] R m) (f : frP mRA (sI (sI h2 128 0 97) 128 300 1) h3) (z : mN h3 tA 1 (qN (tA, 1)) (qC (tA, 1)) (qT (tA, 1)) (qK (tA, 1))) : CI (nw h3 43 1) ∧ nx (nw h3 43 1) = 171 ∧ sc (nw h3 43 1) = sc h0 + n + m + 1 ∧ (∀ k, gI (nw h3 43 1) 1 k = gI h0 1 k) ∧ ln (nw h3 43 1) 1 = ln h0 1 := by
  have n2 : nx h2 = 170 := k.1
  have n3 : nx h3 = 170 := by unfold nx at n2 ⊢; rw [f.2]; exact n2
  have n4 : nx (nw h3 43 1) = 171 := by rw [nxN, n3]
  have e3 : ∀ b k, ¬ mRA b k → ¬ b = 128 → gI h3 b k = gI h2 b k := fun b k q1 q2 => by rw [f.1 b k q1, gS, if_neg (by omega), gS, if_neg (by omega)]
  have r3 : ∀ b k, gR h3 b k = gR h2 b k := fun b k => by rw [f.rr]; rfl
  have t3 : ∀ b, tg h3 b = tg h2 b ∧ ln h3 b = ln h2 b := fun b => by unfold tg ln; rw [f.2]; exact ⟨rfl, rfl⟩
  obtain ⟨x1, x2, x3, x4, x5, x6, x7, x8, x9⟩ := x
  have F : frY (fun _ _ => False) (fun _ _ => False) h1 (nw h3 43 1) := by
    refine ⟨fun b j l _ => ?_, fun b j l _ => ?_, fun b l => ?_, by omega⟩
    · have o := k.2.2.1 b (by omega)
      rw [gN, if_neg (by omega), e3 b j (by unfold mRA mA; omega) (by omega)]
      exact (o.1 j).1
    · have o := k.2.2.1 b (by omega)
      rw [gRN, if_neg (by omega), r3]
      exact (o.1 j).2
    · have o := k.2.2.1 b (by omega)
      rw [tgN, lnN, if_neg (by omega), if_neg (by omega), (t3 b).1, (t3 b).2]
      exact o.2
  have l : 127 ≤ nx h1 := by omega
  have Z : ∀ b k, 127 ≤ b → b < 170 → ¬ mRA b k → ¬ b = 128 → gI (nw h3 43 1) b k = 0 := fun b j b0 b1 q1 q2 => by
    rw [gN, if_neg (by omega), e3 b j q1 q2]
    exact k.2.2.2.1 b j b0 (by omega)
  have Z8 : ∀ k, 301 ≤ k → gI (nw h3 43 1) 128 k = 0 := fun j j0 => by
    rw [gN, if_neg (by omega), f.1 128 j (by unfold mRA mA; omega), gS, if_neg (by omega), gS, if_neg (by omega)]
    exact k.2.2.2.1 128 j (by omega) (by omega)
  have YS : yS (nw h3 43 1) (tA, 1) := by
    have G : frP (fun b _ => b = 170) h3 ((nw h3 43 1).1, h3.2) := by
      refine ⟨fun b j c => ?_, rfl⟩
      have c : ¬ b = 170 := c
      show gI (nw h3 43 1) b j = gI h3 b j
      rw [gN, if_neg (by omega)]
    have w : yS ((nw h3 43 1).1, h3.2) (tA, 1) := mN.fr z ⟨by omega, by omega⟩ G (fun k _ _ => by omega) ⟨by omega, by omega⟩ (fun k => ⟨by omega, by omega⟩)
    exact w
  have kl : ∀ j : Int, kAd j < nx h1 ∧ kAd j + 1 + 1 < nx h1 := fun j => by have := kAd_or j; omega
  refine ⟨⟨5, 21, (tA, 1), fun _ => 0, fun _ _ => 0, fun _ _ _ _ => 0, fun _ => -1, 0, 0, fun _ _ => 0, fun _ => 0, ⟨x4.f7 F l ⟨fun q => q, fun q => q⟩, tA_s, xN.fy y F (by omega) (fun b k _ _ q => q), YS⟩, ⟨fun x _ _ => Or.inl rfl, fun x x0 x1 => ⟨fun _ => (F.2.1 _ _ (by omega) (fun q => q)).trans (x5 x x0 x1), fun c => absurd rfl c⟩, fun x x0 x1 => ⟨Z8 _ (by omega), fun c => absurd rfl c⟩, ⟨fun x _ _ c => absurd rfl c, ⟨?_, fun j n hn => ?_⟩, ?_⟩⟩, ciT_0 ((F.1 _ _ (by omega) (fun q => q)).trans x6.1) (F.le (by omega) x6.2) (Z _ _ (by omega) (by omega) (by unfold mRA mA; omega) (by omega)), ⟨⟨x7.1.f7 F l (fun k q => q), (F.1 _ _ (by omega) (fun q => q)).trans x7.2.1, by omega, by omega, ?_, ?_, fun i i0 i1 => by omega⟩, ⟨Z _ _ (by omega) (by omega) (by unfold mRA mA; omega) (by omega), by omega, by omega, fun i i0 i1 => by omega⟩, fun i i0 i1 => by omega⟩, fun j j0 j1 => ⟨?_, fun c => absurd ?_ c⟩, ⟨by omega, ⟨?_, F.ty rfl x8.2.2.2.2, ?_⟩, F.le (by omega) x8.1, F.ty rfl x8.2.1, F.le (by omega) x8.2.2.1, x8.2.2.2.1.f7 F l (fun k q => q), ?_, ?_, fun j j0 j1 => ?_⟩⟩, n4, ?_, fun j => ?_, ?_⟩
  · rw [gTs_0]; exact Z _ _ (by omega) (by omega) (by unfold mRA mA; omega) (by omega)
  · rw [gTs_0] at hn; cases hn
  · rw [nTs_0]; exact Z _ _ (by omega) (by omega) (by unfold mRA mA; omega) (by omega)
  · rw [F.1 _ _ (by omega) (fun q => q), x7.2.2]; omega
  · rw [F.1 _ _ (by omega) (fun q => q), x7.2.2]; omega
  · rw [F.1 _ _ (kl j).1 (fun q => q), (x9 j j0 j1).2.2.2]
    exact (Z _ _ (by omega) (by omega) (by unfold mRA mA; omega) (by omega)).symm
  · exact Z _ _ (by omega) (by omega) (by unfold mRA mA; omega) (by omega)
  · rw [zty_iff rfl]
    exact ⟨by omega, by omega, by rw [tgN, if_pos n3.symm], Or.inr (by rw [lnN, if_pos n3.symm])⟩
  · rw [zty_iff rfl]
    exact ⟨by omega, by omega, by rw [tgN, if_neg (by omega), (t3 127).1]; exact k.2.1, Or.inl rfl⟩
  · rw [lnN, if_neg (by omega), (t3 128).2]; exact (k.2.2.2.2.1 0 _ rfl).2
  · rw [lnN, if_neg (by omega), (t3 169).2]; exact (k.2.2.2.2.1 41 _ rfl).2
  · have q := x9 j j0 j1
    exact ⟨(F.2.1 _ _ (by omega) (fun q => q)).trans q.1, F.ty rfl q.2.1, F.le (kl j).2 q.2.2.1⟩
  · have s3 : sc h3 = sc h2 := by unfold sc; rw [f.2]; rfl
    rw [scN, s3, k.2.2.2.2.2.2, x2]
  · exact (F.1 _ _ (by omega) (fun q => q)).trans ((x3 1 (by omega)).1 j)
  · exact (F.2.2.1 1 (by omega)).2.trans (x3 1 (by omega)).2
theorem lstart {K : Nat → List zV → List zV → zH → Prop} (hn : nx h = 2) (k : ∀ h1, CI h1 → nx h1 = 171 → sc h1 ≤ sc h + 60000 → (∀ k, gI h1 1 k = gI h 1 k) → ln h1 1 = ln h 1 → K 23 (lws 0 vU vU) [] h1) : zU K 0 [vR 1 147, vU, vU, vU, vU, vU, vU] [] h := by
  refine q0 1 h K (fun a1 e1 => ⟨by omega, ?_⟩)
  rw [hn]
  have m1 : mkF h a1 20 [] [] 13 := ⟨by rw [e1]; have z := mkO_nw h 20 13; rw [hn] at z; exact z, fun r hr => by cases hr⟩
  refine s0 (t := tA) tA_s (by unfold tA; rw [if_pos rfl]) m1 (fun b1 x1 y1 a2 e2 => ?_)
  have n1 : nx b1 = 127 := x1.1
  refine ⟨by omega, ?_⟩
  rw [n1]
  have m2 : mkO b1 a2 127 31 [] [] 68 := by rw [e2]; have z := mkO_nw b1 31 68; rw [n1] at z; exact z
  refine s139 (h0 := b1) (t := tA) tA_s (by show tA 0 = 97; unfold tA; rw [if_pos rfl]) m2 (fun b2 b3 y2 f3 z3 => ⟨⟨by omega, by omega⟩, fun a4 e4 => ?_⟩)
  have n3 : nx b3 = 170 := by
    have n2 : nx b2 = 170 := y2.1
    unfold nx at n2 ⊢
    rw [f3.2]; exact n2
  rw [n3]
  have e5 : a4 = nw b3 43 1 := e4
  rw [e5]
  have c := ci0 x1 y1 y2 f3 z3
  refine zU_k (k _ c.1 c.2.1 ?_ c.2.2.2.1 c.2.2.2.2)
  rw [c.2.2.1]; omega
end LS
