/-! The calls that only look: class and model one behind the other. (Written by genro.py.) -/
def mia (h : zH) (S : qS) (rn : Int → Int) (rt : Int → Int → Int) (rs : Int → pS) (ty : Int → Int) (m c : Int) (pt : Int → Int → Int) (pn : Int → Int) : Prop := yS h S ∧ mRu h rn rt rs ∧ mTs h rn rt rs ∧ mTx h ty m ∧ mPa h c pt pn ∧ ln h 128 = 2709 ∧ ln h 169 = 2107
section RO
variable {P R : Nat → Int → Prop} {h h1 : zH} {a a2 : Nat} {S : qS} {rn : Int → Int} {rt : Int → Int → Int} {rs : Int → pS} {ty : Int → Int} {m c : Int} {pt : Int → Int → Int} {pn : Int → Int}
theorem cia.mx (x : cia h a a2 S rn rt rs ty m c pt pn) (f : frY P R h h1) (d : ∀ b k, 127 ≤ b → b ≤ 169 → ¬ P b k) : mia h1 S rn rt rs ty m c pt pn := by
  have l := x.2.2.2.2.2.1
  have e := x.2.2.2.2.2.2.2.2.2.2.2
  exact ⟨x.1.2.2.2.fy x.1.2.1 f l (fun b k q => d b k (by unfold nSm at q; omega) (by unfold nSm at q; omega)), x.2.1.2.2.1.fy x.2.1.1 f l (fun b k q => d b k (by unfold nRm at q; omega) (by unfold nRm at q; omega)), x.2.1.2.2.2.fy f l (fun b k q => d b k (by unfold nRm at q; omega) (by unfold nRm at q; omega)), x.2.2.1.2.2.fy f l ⟨d _ _ (by omega) (by omega), fun k => d _ _ (by omega) (by omega)⟩, x.2.2.2.1.2.1.fy f l (fun b k q => d b k (by unfold mpA at q; omega) (by unfold mpA at q; omega)), f.le (by omega) e.1, f.le (by omega) e.2.1⟩
theorem cia.mc (x : cia h a a2 S rn rt rs ty m c pt pn) (f : frY P R h h1) (d : ∀ k, ¬ P 1 k) : ciM h h1 := by
  have l := x.2.2.2.2.2.1
  exact ⟨fun k => f.1 _ _ (by omega) (d k), f.le (by omega) rfl, f.ty rfl x.2.2.2.2.2.2.1.2.2⟩
theorem cia.m0 (x : cia h a a2 S rn rt rs ty m c pt pn) : ciM h h := ⟨fun _ => rfl, rfl, x.2.2.2.2.2.2.1.2.2⟩
theorem cia.r1 (x : cia h a a2 S rn rt rs ty m c pt pn) (f : frX P R h h1) (d : ∀ b k, P b k → xSc a2 b) (r : ∀ b k, R b k → xRc b) : ciX h (sI h1 127 0 0) := x.ro f d r (Q := fun b k => b = 127 ∧ k = 0) (frP.rf.st ⟨rfl, rfl⟩) (fun b k q => by unfold mSc; omega)
theorem cia.r0 (x : cia h a a2 S rn rt rs ty m c pt pn) : ciX h (sI h 127 0 0) := x.r1 (P := fun _ _ => False) (R := fun _ _ => False) frX.rf (fun _ _ q => q.elim) (fun _ _ q => q.elim)
theorem g7 (x : CI h) {i j : Int} : zC1 7 [vR 2 100, vI i, vI j] h (fun v h1 => ciM h h1 ∧ zC1 198 [vR 127 111, vI i, vI j] h1 (fun w h2 => v = w ∧ ciX h h2)) := by
  obtain ⟨a, a2, S, rn, rt, rs, ty, m, c, pt, pn, x⟩ := x
  have w := x.1.1.2.2.2.2.2.2
  exact s7 x.1.2.1 ⟨x.1.1.1, x.1.1.2.2.1, x.1.2.2.1⟩ ⟨x.m0, s198 x.1.2.1 x.1.2.2.2 ⟨rfl, x.r0⟩⟩
theorem g8 (x : CI h) {i j : Int} : zC1 8 [vR 2 100, vI i, vI j] h (fun v h1 => ciM h h1 ∧ zC1 199 [vR 127 111, vI i, vI j] h1 (fun w h2 => v = w ∧ ciX h h2)) := by
  obtain ⟨a, a2, S, rn, rt, rs, ty, m, c, pt, pn, x⟩ := x
  have w := x.1.1.2.2.2.2.2.2
  exact s8 x.1.2.1 ⟨x.1.1.1, x.1.1.2.2.1, x.1.2.2.1⟩ ⟨x.m0, s199 x.1.2.1 x.1.2.2.2 ⟨rfl, x.r0⟩⟩
theorem g9 (x : CI h) {i : Int} : zC1 9 [vR 2 100, vI i] h (fun v h1 => ciM h h1 ∧ zC1 200 [vR 127 111, vI i] h1 (fun w h2 => v = w ∧ ciX h h2)) := by
  obtain ⟨a, a2, S, rn, rt, rs, ty, m, c, pt, pn, x⟩ := x
  have w := x.1.1.2.2.2.2.2.2
  exact s9 x.1.2.1 ⟨x.1.1.1, x.1.1.2.2.1, x.1.2.2.1⟩ ⟨x.m0, s200 x.1.2.1 x.1.2.2.2 ⟨rfl, x.r0⟩⟩
theorem g10 (x : CI h) {i j : Int} : zC1 10 [vR 2 100, vI i, vI j] h (fun v h1 => ciM h h1 ∧ zC1 201 [vR 127 111, vI i, vI j] h1 (fun w h2 => v = w ∧ ciX h h2)) := by
  obtain ⟨a, a2, S, rn, rt, rs, ty, m, c, pt, pn, x⟩ := x
  have w := x.1.1.2.2.2.2.2.2
  exact s10 x.1.2.1 ⟨x.1.1.1, x.1.1.2.2.1, x.1.2.2.1⟩ ⟨x.m0, s201 x.1.2.1 x.1.2.2.2 ⟨rfl, x.r0⟩⟩
theorem g11 (x : CI h) {i j : Int} : zC1 11 [vR 2 100, vI i, vI j] h (fun v h1 => ciM h h1 ∧ zC1 202 [vR 127 111, vI i, vI j] h1 (fun w h2 => v = w ∧ ciX h h2)) := by
  obtain ⟨a, a2, S, rn, rt, rs, ty, m, c, pt, pn, x⟩ := x
  have w := x.1.1.2.2.2.2.2.2
  exact s11 x.1.2.1 ⟨x.1.1.1, x.1.1.2.2.1, x.1.2.2.1⟩ ⟨x.m0, s202 x.1.2.1 x.1.2.2.2 ⟨rfl, x.r0⟩⟩
theorem g29 (x : CI h) {i : Int} : zC1 29 [vR 2 100, vI i] h (fun v h1 => ciM h h1 ∧ zC1 256 [vR 127 111, vI i] h1 (fun w h2 => v = w ∧ ciX h h2)) := by
  obtain ⟨a, a2, S, rn, rt, rs, ty, m, c, pt, pn, x⟩ := x
  have w := x.1.1.2.2.2.2.2.2
  exact s29 x.1.2.1 ⟨x.1.1.1, x.1.1.2.2.1, x.1.2.2.1⟩ x.2.1.2.1 x.2.2.1.2.1.1 x.2.2.2.1.1.2.1 ⟨x.m0, s256 x.1.2.1 x.1.2.2.2 x.2.1.1 x.2.1.2.2.1 x.2.2.1.2.2.1 x.2.2.2.1.2.1.1 ⟨rfl, x.r0⟩⟩
theorem g12 (x : CI h) {i j : Int} : zC1 12 [vR 2 100, vI i, vI j] h (fun v h1 => ciM h h1 ∧ zC1 205 [vR 127 111, vI i, vI j] h1 (fun w h2 => v = w ∧ ciX h h2)) := by
  obtain ⟨a, a2, S, rn, rt, rs, ty, m, c, pt, pn, x⟩ := x
  have w := x.1.1.2.2.2.2.2.2
  refine s12 x.2.1.1 x.2.1.2.1 (fun h1 f => ?_)
  have M := x.mx f.y (fun b k b0 b1 => by unfold teA; omega)
  refine ⟨x.mc f.y (fun k => by unfold teA; omega), ?_⟩
  have bL : ∀ x, (0 ≤ x ∧ x < 8) → ¬ rn x = 0 → ∃ v, bO v (fun l => ¬ rs x 5 l 0 = 0) := fun y hy c => ⟨_, ((x.2.1.2.1 y hy.1 hy.2).2 c).2.2.2.2.2.2.2⟩
  exact s205 x.2.1.1 M.2.1 M.2.2.1 bL ⟨rfl, x.r1 f (fun b k q => by unfold teA at q; unfold xSc; omega) (fun b k q => by unfold teR at q; unfold xRc; omega)⟩
theorem g13 (x : CI h) {i j : Int} : zC1 13 [vR 2 100, vI i, vI j] h (fun v h1 => ciM h h1 ∧ zC1 192 [vR 127 111, vI i, vI j] h1 (fun w h2 => v = w ∧ ciX h h2)) := by
  obtain ⟨a, a2, S, rn, rt, rs, ty, m, c, pt, pn, x⟩ := x
  have w := x.1.1.2.2.2.2.2.2
  refine s13 x.1.2.1 ⟨x.1.1.1, x.1.1.2.2.1, x.1.2.2.1⟩ (Or.inl (by omega)) x.2.1.1 x.2.1.2.1 (fun h1 f => ?_)
  have M := x.mx f.y (fun b k b0 b1 => by unfold fiA; omega)
  refine ⟨x.mc f.y (fun k => by unfold fiA; omega), ?_⟩
  exact s192 x.1.2.1 M.1 x.2.1.1 M.2.1 (fun h2 f2 => ⟨rfl, x.ro f (fun b k q => by unfold fiA at q; unfold xSc; omega) (fun b k q => by unfold fiR at q; unfold xRc; omega) f2 (fun b k q => by unfold gWC gWB gWA at q; unfold mSc; omega)⟩)
theorem g14 (x : CI h) {i j l q : Int} : zC1 14 [vR 2 100, vI i, vI j, vI l, vI q] h (fun v h1 => ciM h h1 ∧ zC1 193 [vR 127 111, vI i, vI j, vI l, vI q] h1 (fun w h2 => v = w ∧ ciX h h2)) := by
  obtain ⟨a, a2, S, rn, rt, rs, ty, m, c, pt, pn, x⟩ := x
  have w := x.1.1.2.2.2.2.2.2
  refine s14 x.1.2.1 ⟨x.1.1.1, x.1.1.2.2.1, x.1.2.2.1⟩ (Or.inl (by omega)) x.2.1.1 x.2.1.2.1 (fun h1 f => ?_)
  have M := x.mx f.y (fun b k b0 b1 => by unfold fiA; omega)
  refine ⟨x.mc f.y (fun k => by unfold fiA; omega), ?_⟩
  exact s193 x.1.2.1 M.1 x.2.1.1 M.2.1 (fun h2 f2 => ⟨rfl, x.ro f (fun b k q => by unfold fiA at q; unfold xSc; omega) (fun b k q => by unfold fiR at q; unfold xRc; omega) f2 (fun b k q => by unfold gWC gWB gWA at q; unfold mSc; omega)⟩)
theorem g15 (x : CI h) {i j : Int} : zC1 15 [vR 2 100, vI i, vI j] h (fun v h1 => ciM h h1 ∧ zC1 194 [vR 127 111, vI i, vI j] h1 (fun w h2 => v = w ∧ ciX h h2)) := by
  obtain ⟨a, a2, S, rn, rt, rs, ty, m, c, pt, pn, x⟩ := x
  have w := x.1.1.2.2.2.2.2.2
  refine s15 x.1.2.1 ⟨x.1.1.1, x.1.1.2.2.1, x.1.2.2.1⟩ (Or.inl (by omega)) x.2.1.1 x.2.1.2.1 (fun h1 f => ?_)
  have M := x.mx f.y (fun b k b0 b1 => by unfold fiA; omega)
  refine ⟨x.mc f.y (fun k => by unfold fiA; omega), ?_⟩
  exact s194 x.1.2.1 M.1 x.2.1.1 M.2.1 (fun h2 f2 => ⟨rfl, x.ro f (fun b k q => by unfold fiA at q; unfold xSc; omega) (fun b k q => by unfold fiR at q; unfold xRc; omega) f2 (fun b k q => by unfold gWC gWB gWA at q; unfold mSc; omega)⟩)
theorem g16 (x : CI h) {i : Int} : zC1 16 [vR 2 100, vI i] h (fun v h1 => ciM h h1 ∧ zC1 196 [vR 127 111, vI i] h1 (fun w h2 => v = w ∧ ciX h h2)) := by
  obtain ⟨a, a2, S, rn, rt, rs, ty, m, c, pt, pn, x⟩ := x
  have w := x.1.1.2.2.2.2.2.2
  refine s16 x.1.2.1 ⟨x.1.1.1, x.1.1.2.2.1, x.1.2.2.1⟩ (Or.inl (by omega)) x.2.1.1 x.2.1.2.1 (fun h1 f => ?_)
  have M := x.mx f.y (fun b k b0 b1 => by unfold fiA; omega)
  refine ⟨x.mc f.y (fun k => by unfold fiA; omega), ?_⟩
  exact s196 x.1.2.1 M.1 x.2.1.1 M.2.1 (fun h2 f2 => ⟨rfl, x.ro f (fun b k q => by unfold fiA at q; unfold xSc; omega) (fun b k q => by unfold fiR at q; unfold xRc; omega) f2 (fun b k q => by unfold gWC gWB gWA at q; unfold mSc; omega)⟩)
theorem g17 (x : CI h) {i : Int} : zC1 17 [vR 2 100, vI i] h (fun v h1 => ciM h h1 ∧ zC1 219 [vR 127 111, vI i] h1 (fun w h2 => v = w ∧ ciX h h2)) := by
  obtain ⟨a, a2, S, rn, rt, rs, ty, m, c, pt, pn, x⟩ := x
  have w := x.1.1.2.2.2.2.2.2
  refine s17 x.2.1.1 x.2.1.2.1 (fun h1 f => ?_)
  have M := x.mx f.y (fun b k b0 b1 => by unfold teA; omega)
  refine ⟨x.mc f.y (fun k => by unfold teA; omega), ?_⟩
  exact s219 M.2.2.1 ⟨rfl, x.r1 f (fun b k q => by unfold teA at q; unfold xSc; omega) (fun b k q => by unfold teR at q; unfold xRc; omega)⟩
theorem g18 (x : CI h) {i : Int} : zC1 18 [vR 2 100, vI i] h (fun v h1 => ciM h h1 ∧ zC1 222 [vR 127 111, vI i] h1 (fun w h2 => v = w ∧ ciX h h2)) := by
  obtain ⟨a, a2, S, rn, rt, rs, ty, m, c, pt, pn, x⟩ := x
  have w := x.1.1.2.2.2.2.2.2
  refine s18 x.1.2.1 ⟨x.1.1.1, x.1.1.2.2.1, x.1.2.2.1⟩ (by omega) x.2.1.1 x.2.1.2.1 (fun h1 f => ?_)
  have M := x.mx f.y (fun b k b0 b1 => by unfold teA asA fiA; omega)
  refine ⟨x.mc f.y (fun k => by unfold teA asA fiA; omega), ?_⟩
  exact s222 x.1.2.1 M.1 x.2.1.1 M.2.1 M.2.2.1 gTs_g.1 gTs_g.2.1 gTs_g.2.2 (fun h2 f2 _ => ⟨rfl, x.ro f (fun b k q => by unfold teA asA fiA at q; unfold xSc; omega) (fun b k q => by unfold teR fiR at q; unfold xRc; omega) f2 (fun b k q => by unfold maA gWB gWA at q; unfold mSc; omega)⟩)
theorem g19 (x : CI h) {i j q : Int} : zC1 19 [vR 2 100, vI i, vI j, vI q] h (fun v h1 => ciM h h1 ∧ zC1 236 [vR 127 111, vI i, vI j, vI q] h1 (fun w h2 => v = w ∧ ciX h h2)) := by
  obtain ⟨a, a2, S, rn, rt, rs, ty, m, c, pt, pn, x⟩ := x
  have w := x.1.1.2.2.2.2.2.2
  refine s19 x.1.2.1 ⟨x.1.1.1, x.1.1.2.2.1, x.1.2.2.1⟩ (by omega) x.2.1.1 x.2.1.2.1 (fun h1 f => ?_)
  have M := x.mx f.y (fun b k b0 b1 => by unfold xAA; omega)
  refine ⟨x.mc f.y (fun k => by unfold xAA; omega), ?_⟩
  exact s236 x.1.2.1 M.1 x.2.1.1 M.2.1 (fun h2 f2 => ⟨rfl, x.ro f (fun b k q => by unfold xAA at q; unfold xSc; omega) (fun b k q => by unfold fiR at q; unfold xRc; omega) f2 (fun b k q => by unfold mAA meA mcA edA cwA hlA gWB gWA at q; unfold mSc; omega)⟩)
theorem g20 (x : CI h) {i j q : Int} : zC1 20 [vR 2 100, vI i, vI j, vI q] h (fun v h1 => ciM h h1 ∧ zC1 237 [vR 127 111, vI i, vI j, vI q] h1 (fun w h2 => v = w ∧ ciX h h2)) := by
  obtain ⟨a, a2, S, rn, rt, rs, ty, m, c, pt, pn, x⟩ := x
  have w := x.1.1.2.2.2.2.2.2
  refine s20 x.1.2.1 ⟨x.1.1.1, x.1.1.2.2.1, x.1.2.2.1⟩ (by omega) x.2.1.1 x.2.1.2.1 (fun h1 f => ?_)
  have M := x.mx f.y (fun b k b0 b1 => by unfold xAA; omega)
  refine ⟨x.mc f.y (fun k => by unfold xAA; omega), ?_⟩
  exact s237 x.1.2.1 M.1 x.2.1.1 M.2.1 (fun h2 f2 => ⟨rfl, x.ro f (fun b k q => by unfold xAA at q; unfold xSc; omega) (fun b k q => by unfold fiR at q; unfold xRc; omega) f2 (fun b k q => by unfold mAA meA mcA edA cwA hlA gWB gWA at q; unfold mSc; omega)⟩)
theorem g21 (x : CI h) {i j : Int} : zC1 21 [vR 2 100, vI i, vI j] h (fun v h1 => ciM h h1 ∧ zC1 240 [vR 127 111, vI i, vI j] h1 (fun w h2 => v = w ∧ ciX h h2)) := by
  obtain ⟨a, a2, S, rn, rt, rs, ty, m, c, pt, pn, x⟩ := x
  have w := x.1.1.2.2.2.2.2.2
  refine s21 x.1.2.1 ⟨x.1.1.1, x.1.1.2.2.1, x.1.2.2.1⟩ (by omega) x.2.1.1 x.2.1.2.1 (fun h1 f => ?_)
  have M := x.mx f.y (fun b k b0 b1 => by unfold xAA; omega)
  refine ⟨x.mc f.y (fun k => by unfold xAA; omega), ?_⟩
  exact s240 x.1.2.1 M.1 x.2.1.1 M.2.1 (fun h2 f2 => ⟨rfl, x.ro f (fun b k q => by unfold xAA at q; unfold xSc; omega) (fun b k q => by unfold fiR at q; unfold xRc; omega) f2 (fun b k q => by unfold mAA meA mcA edA cwA hlA gWB gWA at q; unfold mSc; omega)⟩)
theorem g22 (x : CI h) {i j : Int} : zC1 22 [vR 2 100, vI i, vI j] h (fun v h1 => ciM h h1 ∧ zC1 245 [vR 127 111, vI i, vI j] h1 (fun w h2 => v = w ∧ ciX h h2)) := by
  obtain ⟨a, a2, S, rn, rt, rs, ty, m, c, pt, pn, x⟩ := x
  have w := x.1.1.2.2.2.2.2.2
  refine s22 x.1.1 x.1.2.1 x.1.2.2.1 x.2.2.2.2.2.2.2.1 x.2.1.1 x.2.1.2.1 (fun h1 f => ?_)
  have M := x.mx f.y (fun b k b0 b1 => by unfold stA xAA; omega)
  refine ⟨x.mc f.y (fun k => by unfold stA xAA; omega), ?_⟩
  exact s245 x.1.2.1 M.1 x.2.1.1 M.2.1 (fun h2 f2 => ⟨rfl, x.ro f (fun b k q => by unfold stA xAA at q; unfold xSc; omega) (fun b k q => by unfold fiR at q; unfold xRc; omega) f2 (fun b k q => by unfold mwA mST meA mcA edA cwA hlA gWB gWA bgA mA at q; unfold mSc; omega)⟩)
end RO
