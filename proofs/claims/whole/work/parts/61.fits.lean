/-! What fits: both, over the rules in their slots. -/
/-- what is changed, when nothing is made -/
def frX (P R : Nat → Int → Prop) (h h1 : zH) : Prop := (∀ b k, ¬ P b k → gI h1 b k = gI h b k) ∧ (∀ b k, ¬ R b k → gR h1 b k = gR h b k) ∧ h1.2.2 = h.2.2
theorem frX.rf {P R : Nat → Int → Prop} {h : zH} : frX P R h h := ⟨fun _ _ _ => rfl, fun _ _ _ => rfl, rfl⟩
theorem frX.tr {P R : Nat → Int → Prop} {h h1 h2 : zH} (p : frX P R h h1) (q : frX P R h1 h2) : frX P R h h2 := ⟨fun b k n => (q.1 b k n).trans (p.1 b k n), fun b k n => (q.2.1 b k n).trans (p.2.1 b k n), q.2.2.trans p.2.2⟩
theorem frX.mo {P P' R R' : Nat → Int → Prop} {h h1 : zH} (p : frX P R h h1) (i : ∀ b k, P b k → P' b k) (j : ∀ b k, R b k → R' b k) : frX P' R' h h1 := ⟨fun b k n => p.1 b k (fun q => n (i b k q)), fun b k n => p.2.1 b k (fun q => n (j b k q)), p.2.2⟩
theorem frP.x {P R : Nat → Int → Prop} {h h1 : zH} (p : frP P h h1) : frX P R h h1 := ⟨p.1, fun b k _ => p.rr b k, by rw [p.2]⟩
theorem frX.st {P R : Nat → Int → Prop} {h h1 : zH} {a : Nat} {k v : Int} (p : frX P R h h1) (i : P a k) : frX P R h (sI h1 a k v) :=
  ⟨fun b j n => by rw [gS, if_neg (fun q => n (by rw [q.1, q.2]; exact i))]; exact p.1 b j n, p.2.1, p.2.2⟩
theorem frX.sr {P R : Nat → Int → Prop} {h h1 : zH} {a : Nat} {k : Int} {v : Nat} (p : frX P R h h1) (i : R a k) : frX P R h (sR h1 a k v) :=
  ⟨p.1, fun b j n => by rw [gRR, if_neg (fun q => n (by rw [q.1, q.2]; exact i))]; exact p.2.1 b j n, p.2.2⟩
theorem frX.ty {P R : Nat → Int → Prop} {h h1 : zH} (p : frX P R h h1) (t x : Nat) : zty t x h1 = zty t x h := by unfold zty nx tg ln; rw [p.2.2]
theorem frX.le {P R : Nat → Int → Prop} {h h1 : zH} (p : frX P R h h1) (x : Nat) : ln h1 x = ln h x := by unfold ln; rw [p.2.2]
theorem frX.nn {P R : Nat → Int → Prop} {h h1 : zH} (p : frX P R h h1) : nx h1 = nx h := by unfold nx; rw [p.2.2]
theorem frX.gg {P R : Nat → Int → Prop} {h h1 : zH} (p : frX P R h h1) (x : Nat) : tg h1 x = tg h x := by unfold tg; rw [p.2.2]
section FX
variable {P R : Nat → Int → Prop} {h h1 : zH} {t w : Int → Int} {n nd nc m : Int} {T C : pT} {s : pS} {a r : Nat}
theorem Txt.fx (x : Txt h a t n) (f : frX P R h h1) (d : ∀ k, ¬ P a k ∧ ¬ P (a + 1) k) : Txt h1 a t n :=
  ⟨(f.1 _ _ (d _).1).trans x.1, by rw [f.le]; exact x.2.1, fun i h0 h1 => (f.1 _ _ (d _).2).trans (x.2.2 i h0 h1)⟩
theorem xN.fx (x : xN h a t n nd nc T C) (f : frX P R h h1) (d : ∀ b k, a ≤ b → b < a + 16 → ¬ P b k) : xN h1 a t n nd nc T C := by
  obtain ⟨x1, x2, x3, x4, x5⟩ := x
  refine ⟨x1.fx f (fun k => ⟨d _ _ (by omega) (by omega), d _ _ (by omega) (by omega)⟩), by rw [f.1 _ _ (d _ _ (by omega) (by omega))]; exact x2, by rw [f.1 _ _ (d _ _ (by omega) (by omega))]; exact x3, fun i h0 h1 => ?_, fun i h0 h1 => ?_⟩
  · have y := x4 i h0 h1
    repeat rw [f.1 _ _ (d _ _ (by omega) (by omega))]
    exact y
  · have y := x5 i h0 h1
    repeat rw [f.1 _ _ (d _ _ (by omega) (by omega))]
    exact y
theorem xPt.fx (x : xPt h r w m s) (f : frX P R h h1) (d : ∀ b k, r ≤ b → b < r + 15 → ¬ P b k) : xPt h1 r w m s := by
  obtain ⟨x1, x2, x3, x4⟩ := x
  refine ⟨by rw [f.ty]; exact x1, x2.fx f (fun k => ⟨d _ _ (by omega) (by omega), d _ _ (by omega) (by omega)⟩), fun i j h0 h1 h2 => ?_, ?_⟩
  · rw [f.1 _ _ (d _ _ (by omega) (by omega))]; exact x3 i j h0 h1 h2
  · rw [f.1 _ _ (d _ _ (by omega) (by omega))]; exact x4
theorem xRu.fx {A : Nat} {rn : Int → Int} {rt : Int → Int → Int} {rs : Int → pS} (u : xRu h A rn rt rs) (f : frX P R h h1) (d : ∀ b k, 170 ≤ b → b < nx h → ¬ P b k) (d2 : ∀ k, 0 ≤ k → k < 8 → ¬ R A k) : xRu h1 A rn rt rs :=
  u.dt (fun b k q1 q2 => f.1 _ _ (d b k q1 q2)) (fun k k0 k1 => f.2.1 _ _ (d2 k k0 k1)) (fun b _ _ => ⟨f.gg b, f.le b⟩) (by rw [f.nn]; omega)
end FX
/-- what the search changes -/
def fiR (b : Nat) (k : Int) : Prop := b = 56 ∧ (k = 7 ∨ k = 8)
section SE
variable {h : zH} {t w : Int → Int} {n nd nc m bs v : Int} {T C : pT} {s : pS} {a r : Nat}
theorem wAl_c (x : rEn w m 0 0 s) (b : bsI s 0 bs) : wAl t w T s bs v = Wc t w T s bs v (s 1 bs 9).toNat bs (fun _ _ => 0) := by
  have sp := x.sp b.1 b.2.1
  exact Wm_c x b _ _ _ (by omega) (by omega) ⟨fun y y0 y1 => by omega, fun p p0 p1 => by omega⟩
theorem s94 {M : Nat} (g : sF t n nd nc T C) (y : xN h a t n nd nc T C) (ty : zty 102 a h) (p : xPt h r w m s) (o : tOk w m) (x : rEn w m 0 0 s) (b : bsI s 0 bs) (hv : 0 ≤ v ∧ v < nd) (ha : a + 16 ≤ 56 ∨ 63 ≤ a) (hr : 63 ≤ r) (hM : 1 ≤ M ∧ M ≤ 500) {K : Int → zH → Prop}
    (k0 : (wAl t w T s bs v).length < M → ∀ h1, frX fiA fiR h h1 → K ((wAl t w T s bs v).length : Nat) h1)
    (k1 : M ≤ (wAl t w T s bs v).length → ∀ h1 e, (wAl t w T s bs v)[M - 1]? = some e → fS h1 e bs (bs + s 1 bs 9) → frX fiA fiR h h1 → K M h1) : zC1 94 [vR 56 105, vR a 102, vR r 103, vI bs, vI v, vI M] h K := by
  have N := x.N
  have sp := x.sp b.1 b.2.1
  have b1 := b.1
  refine cI (k94_0 a r bs v M h _ (fun h8 e8 h9 e9 h10 e10 h11 e11 => ?_))
  have F : frX fiA fiR h h11 := by
    rw [e11, e10, e9, e8]
    exact (((frX.rf.sr (by unfold fiR; omega)).sr (by unfold fiR; omega)).st (by unfold fiA; omega)).st (by unfold fiA; omega)
  have y11 := y.fx F (fun b k _ _ => by unfold fiA; omega)
  have p11 := p.fx F (fun b k _ _ => by unfold fiA; omega)
  have r7 : gR h11 56 7 = a := by
    have : gR h11 56 7 = gR h9 56 7 := by rw [e11, e10]; rfl
    rw [this, e9, gRR, if_neg (by omega), e8, gRR, if_pos ⟨rfl, rfl⟩]
  have r8 : gR h11 56 8 = r := by
    have : gR h11 56 8 = gR h9 56 8 := by rw [e11, e10]; rfl
    rw [this, e9, gRR, if_pos ⟨rfl, rfl⟩]
  have i9 : gI h11 56 9 = bs := by rw [e11, gS, if_neg (by omega), e10, gS1]
  have i6 : gI h11 56 6 = 0 := by rw [e11, gS1]
  have q11 : xFt h11 a r bs := ⟨r7, r8, i9, by rw [F.ty]; exact ty, ha, hr⟩
  have e12 : gI h11 (r + 12) bs = s 1 bs 9 := p11.2.2.1 bs 9 b1 b.2.1 (by omega)
  rw [r8, i9, e12]
  refine ⟨p11.1, by omega, by omega, by unfold inR; omega, ?_⟩
  have cb := cst_b x b
  have wc := wAl_c (t := t) (T := T) (v := v) x b
  obtain ⟨f, hf⟩ : ∃ f : Nat, (s 1 bs 9).toNat = f + 1 := ⟨(s 1 bs 9).toNat - 1, by omega⟩
  rw [hf] at cb wc
  rw [wc] at k0 k1
  have fr : ∀ h2, frP (fun b k => fiA b k ∧ ¬ (b = 56 ∧ k = 9)) h11 h2 → frX fiA fiR h h2 := fun h2 f2 => F.tr ((f2.mo (fun b k q => q.1)).x)
  have := find (u1 := vR a 102) (u2 := vR r 103) (u3 := vI bs) (M := M) (Q := fun r h1 => ∃ v : Int, r = some (Sum.inl v) ∧ K v h1) g y11 p11 o x b q11 hv hM.2 f bs (fun _ _ => 0) 0 h11 0 vU (by omega) (by omega) frP.rf (fun i i0 i1 => by omega) (fun i i0 i1 => by omega) (by omega) (by rw [i6, kcn_0]; omega) (by omega) (by omega)
    (fun lt h2 steps2 f2 fs2 e6 e62 st2 u11 => by
      rw [e6, i6]
      refine k95_7 (0 - 1) h2 _ ⟨fun _ => ⟨-1, rfl, by unfold inR; omega, ?_⟩, fun d => absurd (by omega) d⟩
      refine k94_54 _ _ _ v M _ _ (-1) 0 _ u11 h2 _ ⟨fun d => by omega, fun _ => ⟨fun _ => zq1 ?_, fun d => absurd rfl d⟩⟩
      rw [Nat.zero_add] at lt ⊢
      exact k0 lt h2 (fr h2 f2))
    (fun le h2 e ee fs2 f2 => zq1 (by
      rw [Nat.zero_add] at le
      exact k1 le h2 e (by rw [← ee]; congr 1) fs2 (fr h2 f2)))
  exact this
theorem s91 (g : sF t n nd nc T C) (y : xN h a t n nd nc T C) (ty : zty 102 a h) (p : xPt h r w m s) (o : tOk w m) (x : rEn w m 0 0 s) (b : bsI s 0 0) (hv : 0 ≤ v ∧ v < nd) (ha : a + 16 ≤ 56 ∨ 63 ≤ a) (hr : 63 ≤ r) {K : Int → zH → Prop}
    (k0 : wAl t w T s 0 v = [] → ∀ h1, frX fiA fiR h h1 → K 0 h1) (k1 : ∀ e L, wAl t w T s 0 v = e :: L → ∀ h1, fS h1 e 0 (s 1 0 9) → frX fiA fiR h h1 → K 1 h1) : zC1 91 [vR 56 105, vR a 102, vR r 103, vI v] h K := by
  refine cI (k91_0 a r v h _ (s94 (M := 1) g y ty p o x b hv ha hr (by omega) (fun lt h1 f1 => ?_) (fun le h1 e ee fs f1 => ?_)))
  · have e0 : wAl t w T s 0 v = [] := List.length_eq_zero_iff.1 (by omega)
    rw [e0]
    exact ⟨fun _ => ⟨Or.inl rfl, zq1 (k0 e0 h1 f1)⟩, fun d => absurd (by show (0 : Int) ≤ 0; omega) d⟩
  · refine ⟨fun d => absurd d (by omega), fun _ => ⟨Or.inr rfl, zq1 ?_⟩⟩
    cases hL : wAl t w T s 0 v with
    | nil => rw [hL] at le; exact absurd le (by show ¬ 1 ≤ 0; omega)
    | cons e' L =>
      rw [hL] at ee
      have ee : some e' = some e := ee
      injection ee with ee
      subst ee
      rw [Int.zero_add] at fs
      exact k1 e' L hL h1 fs f1
end SE
/-- the pattern of a rule that was read -/
noncomputable def ptn (t : Int → Int) (n : Int) (s : pS) : pS := @Classical.epsilon pS ⟨s⟩ (fun s1 => rGd t n s1 s)
theorem ptn_d {t : Int → Int} {n : Int} {s : pS} (o : tOk t n) (e : rread t n = (true, s)) : rGd t n (ptn t n s) s := by
  exact @Classical.epsilon_spec_aux pS ⟨s⟩ (fun s1 => rGd t n s1 s) (rGd_read o o.1 e)
theorem rGd.en {t : Int → Int} {n : Int} {s1 s : pS} (x : rGd t n s1 s) : rEn t n 0 0 s1 ∧ bsI s1 0 0 := by
  have e : rEn t n 0 0 s1 := ⟨x.1, x.2.1, x.2.2.1⟩
  refine ⟨e, Int.le_refl _, x.2.2.1, fun c => ?_⟩
  have := e.ro (y := 0) (by omega) x.2.2.1 c
  omega
theorem rGd.xp {h : zH} {r : Nat} {t : Int → Int} {n : Int} {s1 s : pS} (x : rGd t n s1 s) (q : xQ h r t n s) : xPt h r t n s1 := by
  have N := x.en.1.N
  refine ⟨q.1, q.2.1, fun i j h0 h1 hj => ?_, by rw [q.2.2.2.2.1]; exact x.2.2.2.2.2.2.1⟩
  rw [q.2.2.1 i j h0 (by omega) hj]
  exact x.2.2.2.2.2.2.2.1 i j h0 h1
theorem rGd.mp {h : zH} {z : Int} {t : Int → Int} {n : Int} {s1 s : pS} (x : rGd t n s1 s) (hz : 0 ≤ z ∧ z < 8) (q1 : ∀ i, 0 ≤ i → i < n → gI h 128 (301 + 301 * z + i) = t i) (q2 : mTk h z s) : mPt h z t n s1 := by
  refine ⟨hz, q1, fun k j h0 h1 hj => ?_⟩
  have e3 := x.2.2.2.2.2.2.2.2.2.2.1
  rw [q2.1.2 k j h0 (by omega) hj]
  exact x.2.2.2.2.2.2.2.2.2.1 k j
/-- a rule in its slot -/
noncomputable abbrev sP (rn : Int → Int) (rt : Int → Int → Int) (rs : Int → pS) (x : Int) : pS := ptn (rt x) (rn x) (rs x)
section SL2
variable {h : zH} {rn : Int → Int} {rt : Int → Int → Int} {rs : Int → pS} {x : Int}
theorem slO.gd (o : slO rn rt rs) (hx : 0 ≤ x ∧ x < 8) (hn : ¬ rn x = 0) : rGd (rt x) (rn x) (sP rn rt rs x) (rs x) ∧ tOk (rt x) (rn x) := by
  rcases o x hx.1 hx.2 with q | q
  · exact absurd q hn
  · exact ⟨ptn_d q.2.1 q.2.2, q.2.1⟩
theorem xRu.pt {A : Nat} (u : xRu h A rn rt rs) (o : slO rn rt rs) (hx : 0 ≤ x ∧ x < 8) (hn : ¬ rn x = 0) : 170 ≤ gR h A x ∧ xPt h (gR h A x) (rt x) (rn x) (sP rn rt rs x) := by
  have q := (u x hx.1 hx.2).2 hn
  exact ⟨q.1, (o.gd hx hn).1.xp q.2.2⟩
theorem mRu.pt (u : mRu h rn rt rs) (o : slO rn rt rs) (hx : 0 ≤ x ∧ x < 8) (hn : ¬ rn x = 0) : mPt h x (rt x) (rn x) (sP rn rt rs x) := by
  have q := (u x hx.1 hx.2).2 hn
  exact (o.gd hx hn).1.mp hx q.1 q.2
theorem mRu.fr (u : mRu h rn rt rs) (o : slO rn rt rs) {h1 : zH} {P : Nat → Int → Prop} (f : frP P h h1) (d : ∀ k, 301 ≤ k → ¬ P 128 k) (d2 : ∀ k, ¬ P 139 k ∧ ¬ P 140 k) : mRu h1 rn rt rs := by
  intro x x0 x1
  have q := u x x0 x1
  refine ⟨by rw [f.1 _ _ (d _ (by omega))]; exact q.1, fun c => ?_⟩
  have q := q.2 c
  refine ⟨fun i i0 i1 => by rw [f.1 _ _ (d _ (by omega))]; exact q.1 i i0 i1, ⟨by rw [f.1 _ _ (d2 _).2]; exact q.2.1.1, fun k j h0 h1 h2 => by rw [f.1 _ _ (d2 _).1]; exact q.2.1.2 k j h0 h1 h2⟩, ⟨by rw [f.1 _ _ (d2 _).2]; exact q.2.2.1, fun k j h0 h1 h2 => by rw [f.1 _ _ (d2 _).1]; exact q.2.2.2 k j h0 h1 h2⟩⟩
end SL2
