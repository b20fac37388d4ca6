/-! The class's search for ways: the loop. -/
/-- how many steps there are at most -/
def mlt (o : Int) : Nat := if o = 2 then 60 else if o = 5 then 13 else 1
def cst (s : pS) : Nat → Int → Nat
  | 0, _ => 0
  | f + 1, j => mlt (s 1 j 0) * (cst s f (j + 1) + 2)
def prd (s : pS) : Nat → Int → Nat
  | 0, _ => 1
  | f + 1, j => mlt (s 1 j 0) * prd s f (j + 1)
theorem mlt_1 (o : Int) : 1 ≤ mlt o := by unfold mlt; split; omega; split <;> omega
theorem prd_1 (s : pS) : ∀ (f : Nat) (j : Int), 1 ≤ prd s f j
  | 0, _ => Nat.le_refl _
  | f + 1, j => Nat.mul_le_mul (mlt_1 (s 1 j 0)) (prd_1 s f (j + 1))
theorem cst_p (s : pS) : ∀ (f : Nat) (j : Int), cst s f j ≤ 2 * f * prd s f j
  | 0, _ => by show 0 ≤ _; omega
  | f + 1, j => by
    have i := cst_p s f (j + 1)
    have p := prd_1 s f (j + 1)
    show mlt (s 1 j 0) * (cst s f (j + 1) + 2) ≤ 2 * (f + 1) * (mlt (s 1 j 0) * prd s f (j + 1))
    have e : 2 * (f + 1) * (mlt (s 1 j 0) * prd s f (j + 1)) = mlt (s 1 j 0) * (2 * f * prd s f (j + 1) + 2 * prd s f (j + 1)) := by
      rw [show 2 * f * prd s f (j + 1) + 2 * prd s f (j + 1) = 2 * (f + 1) * prd s f (j + 1) by rw [← Nat.add_mul]; congr 1]
      rw [← Nat.mul_assoc, ← Nat.mul_assoc, Nat.mul_comm (2 * (f + 1)) (mlt (s 1 j 0)), Nat.mul_assoc, Nat.mul_assoc]
    rw [e]
    exact Nat.mul_le_mul_left _ (by omega)
theorem prd_c (s : pS) : ∀ (f : Nat) (j : Int), ∃ a b : Nat, prd s f j = 60 ^ a * 13 ^ b ∧ (a : Int) = cntf (fun i => s 1 i 0) j 2 f ∧ (b : Int) = cntf (fun i => s 1 i 0) j 5 f
  | 0, _ => ⟨0, 0, rfl, rfl, rfl⟩
  | f + 1, j => by
    obtain ⟨a, b, e, ea, eb⟩ := prd_c s f (j + 1)
    have c1 : ∀ o, cntf (fun i => s 1 i 0) j o (f + 1) = (if s 1 j 0 = o then 1 else 0) + cntf (fun i => s 1 i 0) (j + 1) o f := by
      intro o
      rw [Nat.add_comm f 1, cntf_ap]
      show cntf (fun i => s 1 i 0) j o 0 + (if s 1 (j + ((0 : Nat) : Int)) 0 = o then 1 else 0) + _ = _
      rw [show j + ((0 : Nat) : Int) = j by omega, show j + ((1 : Nat) : Int) = j + 1 by omega]
      show 0 + _ + _ = _
      omega
    show ∃ a b : Nat, mlt (s 1 j 0) * prd s f (j + 1) = 60 ^ a * 13 ^ b ∧ _
    rw [c1, c1, e]
    by_cases c2 : s 1 j 0 = 2
    · refine ⟨a + 1, b, ?_, ?_, ?_⟩
      · rw [show mlt (s 1 j 0) = 60 by unfold mlt; rw [if_pos c2], Nat.pow_succ, ← Nat.mul_assoc, Nat.mul_comm 60 (60 ^ a)]
      · rw [if_pos c2]; omega
      · rw [if_neg (by omega)]; omega
    · by_cases c5 : s 1 j 0 = 5
      · refine ⟨a, b + 1, ?_, ?_, ?_⟩
        · rw [show mlt (s 1 j 0) = 13 by unfold mlt; rw [if_neg c2, if_pos c5], Nat.pow_succ, Nat.mul_comm 13, Nat.mul_assoc]
        · rw [if_neg c2]; omega
        · rw [if_pos c5]; omega
      · refine ⟨a, b, ?_, ?_, ?_⟩
        · rw [show mlt (s 1 j 0) = 1 by unfold mlt; rw [if_neg c2, if_neg c5], Nat.one_mul]
        · rw [if_neg c2]; omega
        · rw [if_neg c5]; omega
theorem cst_b {m bs : Int} {s : pS} {w : Int → Int} (x : rEn w m 0 0 s) (b : bsI s 0 bs) : cst s (s 1 bs 9).toNat bs ≤ 405600 := by
  have N := x.N
  have sp := x.sp b.1 b.2.1
  have b1 := b.1
  have q := x.1.2.2.2.2 rfl
  obtain ⟨p, r, e, ep, er⟩ := prd_c s (s 1 bs 9).toNat bs
  have sub : ∀ o, cntf (fun i => s 1 i 0) bs o (s 1 bs 9).toNat ≤ cntf (fun i => s 1 i 0) 0 o (s 0 0 1 - 0).toNat := by
    intro o
    rw [show (s 0 0 1 - 0).toNat = bs.toNat + ((s 1 bs 9).toNat + (s 0 0 1 - bs - s 1 bs 9).toNat) by omega, cntf_ap, cntf_ap, show (0 : Int) + (bs.toNat : Int) = bs by omega]
    have a := cntf_0 (f := fun i => s 1 i 0) (a := 0) (w := o) bs.toNat
    have b := cntf_0 (f := fun i => s 1 i 0) (a := bs + ((s 1 bs 9).toNat : Int)) (w := o) (s 0 0 1 - bs - s 1 bs 9).toNat
    omega
  have a2 := sub 2
  have a5 := sub 5
  have h1 : prd s (s 1 bs 9).toNat bs ≤ 10140 := by
    rw [e]
    have u : 60 ^ p ≤ 60 ^ 1 := Nat.pow_le_pow_right (by omega) (by omega)
    have v : 13 ^ r ≤ 13 ^ 2 := Nat.pow_le_pow_right (by omega) (by omega)
    exact Nat.mul_le_mul u v
  have h2 := cst_p s (s 1 bs 9).toNat bs
  have h3 : 2 * (s 1 bs 9).toNat * prd s (s 1 bs 9).toNat bs ≤ 40 * 10140 := Nat.mul_le_mul (by omega) h1
  omega
theorem ix1 {A B : List fZ} {f M : Nat} (h : M ≤ f + A.length) (h1 : f < M) : (A ++ B)[M - f - 1]? = A[M - f - 1]? := List.getElem?_append_left (by omega)
theorem ix2 {A B : List fZ} {f M : Nat} (h : f + A.length < M) : (A ++ B)[M - f - 1]? = B[M - (f + A.length) - 1]? := by
  rw [List.getElem?_append_right (by omega)]
  congr 1
  omega
section XH
variable {h0 : zH} {t w : Int → Int} {n nd nc m bs v : Int} {T C : pT} {s : pS} {a r : Nat} {u1 u2 u3 : zV} {M : Nat} {Q : Option zV → zH → Prop}
/-- what comes when nothing more is behind: the latest choice is changed -/
def cTn (s : pS) (bs v : Int) (u1 u2 u3 : zV) (M : Nat) (Q : Option zV → zH → Prop) (h : zH) (found steps : Nat) : Prop := ∀ u11, zK 95 7 [vR 56 105, vI (gI h 56 6 - 1)] [] h (fun r h14 => ∃ v14 : Int, r = some (Sum.inl v14) ∧ (inR ((steps : Int) + 1) ∧ zK 94 54 [vR 56 105, u1, u2, u3, vI v, vI M, vI (bs + s 1 bs 9), vI found, vI v14, vI 0, vI ((steps : Int) + 1), u11] [] h14 Q))
theorem k145 {h : zH} {j : Int} {u9 u11 : zV} {found steps : Nat} (h6 : 0 ≤ gI h 56 6 ∧ gI h 56 6 ≤ 3) (c : cTn s bs v u1 u2 u3 M Q h found steps) : zK 94 144 [vR 56 105, u1, u2, u3, vI v, vI M, vI (bs + s 1 bs 9), vI found, vI j, u9, vI steps, u11] [] h Q := by
  refine k94_144 u1 u2 u3 v M _ found j u9 steps u11 h Q (k94_145 u1 u2 u3 v M _ found j u9 steps u11 0 h Q ⟨fun _ => cI (k95_0 h _ ⟨by unfold inR; omega, c u11⟩), fun d => absurd rfl d⟩)
theorem k96f {h : zH} {j : Int} {u9 u11 : zV} {found steps : Nat} (h6 : 0 ≤ gI h 56 6 ∧ gI h 56 6 ≤ 3) (c : cTn s bs v u1 u2 u3 M Q h found steps) : zK 94 96 [vR 56 105, u1, u2, u3, vI v, vI M, vI (bs + s 1 bs 9), vI found, vI j, u9, vI steps, u11] [] h Q :=
  k94_96 u1 u2 u3 v M _ found j u9 steps u11 h Q (k94_97 u1 u2 u3 v M _ found j u9 steps u11 0 h Q ⟨fun _ => k94_126 u1 u2 u3 v M _ found j u9 steps 0 h Q ⟨fun _ => k145 h6 c, fun d => absurd rfl d⟩, fun d => absurd rfl d⟩)
/-- the search from item j on finds what there is, in its order -/
theorem find (g : sF t n nd nc T C) (y0 : xN h0 a t n nd nc T C) (p0 : xPt h0 r w m s) (o : tOk w m) (x : rEn w m 0 0 s) (b : bsI s 0 bs) (q0 : xFt h0 a r bs) (hv : 0 ≤ v ∧ v < nd) (hM : M ≤ 500) :
    ∀ (f : Nat) (j : Int) (st : fZ) (found : Nat) (h1 : zH) (steps : Nat) (u11 : zV), bs + s 1 bs 9 - j = ((f + 1 : Nat) : Int) → bs ≤ j → frP (fun b k => fiA b k ∧ ¬ (b = 56 ∧ k = 9)) h0 h1 → fS h1 st bs j → fVd nd T s bs st j → 0 ≤ gI h1 56 6 → gI h1 56 6 ≤ kcn s bs j → steps + cst s (f + 1) j < 1000000 → found < M →
      (found + (Wc t w T s bs v (f + 1) j st).length < M → ∀ h2 steps2, frP (fun b k => fiA b k ∧ ¬ (b = 56 ∧ k = 9)) h0 h2 → fS h2 st bs j → gI h2 56 6 = gI h1 56 6 → (∀ i, 0 ≤ i → i < gI h1 56 6 → gI h2 62 i = gI h1 62 i) → steps2 ≤ steps + cst s (f + 1) j → cTn s bs v u1 u2 u3 M Q h2 (found + (Wc t w T s bs v (f + 1) j st).length) steps2) →
      (M ≤ found + (Wc t w T s bs v (f + 1) j st).length → ∀ h2 e, (Wc t w T s bs v (f + 1) j st)[M - found - 1]? = some e → fS h2 e bs (bs + s 1 bs 9) → frP (fun b k => fiA b k ∧ ¬ (b = 56 ∧ k = 9)) h0 h2 → Q (some (vI M)) h2) →
      zK 94 54 [vR 56 105, u1, u2, u3, vI v, vI M, vI (bs + s 1 bs 9), vI found, vI j, vI 1, vI steps, u11] [] h1 Q := by
  have N := x.N
  have b1 := b.1
  have sp := x.sp b.1 b.2.1
  have hnd := g.hd
  have q5 := q0.2.2.2.2.1
  have q6 := q0.2.2.2.2.2
  have yf : ∀ h1, frP (fun b k => fiA b k ∧ ¬ (b = 56 ∧ k = 9)) h0 h1 → xN h1 a t n nd nc T C := fun h1 f => y0.fr f (fun b k _ _ => by unfold fiA; omega)
  have pf : ∀ h1, frP (fun b k => fiA b k ∧ ¬ (b = 56 ∧ k = 9)) h0 h1 → xPt h1 r w m s := fun h1 f => p0.fr f (fun b k _ _ => by unfold fiA; omega)
  have qf : ∀ h1, frP (fun b k => fiA b k ∧ ¬ (b = 56 ∧ k = 9)) h0 h1 → xFt h1 a r bs := fun h1 f => q0.fr f (by unfold fiA; omega)
  intro f
  induction f using Nat.strongRecOn with
  | ind f ih =>
    intro j st found h1 steps u11 ef j0 fr1 fs1 vd k0 kk hs hf hc he
    have j1 : j < bs + s 1 bs 9 := by omega
    have vs := fVs_of g x b hv vd j0 j1
    have k3 := kcn_3 x b1 (j := j + 1) (by omega) (by omega)
    have k3' := kcn_3 x b1 (j := j) (by omega) (by omega)
    have ks := kcn_s (s := s) j0
    have r12 := vs.2.2.2
    -- what comes behind an item
    have NX : ∀ (st' : fZ) (found : Nat) (h2 : zH) (steps : Nat) (u9 u11 : zV), frP (fun b k => fiA b k ∧ ¬ (b = 56 ∧ k = 9)) h0 h2 → fS h2 st' bs (j + 1) → fVd nd T s bs st' (j + 1) → 0 ≤ gI h2 56 6 → gI h2 56 6 ≤ kcn s bs (j + 1) → steps + 1 + cst s f (j + 1) < 1000000 → found < M →
        (found + (Nc t w T s bs v f j st').length < M → ∀ h3 steps3, frP (fun b k => fiA b k ∧ ¬ (b = 56 ∧ k = 9)) h0 h3 → fS h3 st' bs (j + 1) → gI h3 56 6 = gI h2 56 6 → (∀ i, 0 ≤ i → i < gI h2 56 6 → gI h3 62 i = gI h2 62 i) → steps3 ≤ steps + 1 + cst s f (j + 1) → cTn s bs v u1 u2 u3 M Q h3 (found + (Nc t w T s bs v f j st').length) steps3) →
        (M ≤ found + (Nc t w T s bs v f j st').length → ∀ h3 e, (Nc t w T s bs v f j st')[M - found - 1]? = some e → fS h3 e bs (bs + s 1 bs 9) → frP (fun b k => fiA b k ∧ ¬ (b = 56 ∧ k = 9)) h0 h3 → Q (some (vI M)) h3) →
        zK 94 83 [vR 56 105, u1, u2, u3, vI v, vI M, vI (bs + s 1 bs 9), vI found, vI j, u9, vI steps, u11] [] h2 Q := by
      intro st' found h2 steps u9 u11 f2 fs2 vd2 n0 n1 hs2 hf2 hc2 he2
      refine k94_83 u1 u2 u3 v M _ found j u9 steps u11 h2 Q (s103 g (yf h2 f2) (pf h2 f2) x b (qf h2 f2) fs2 vd2 j0 j1 ?_)
      unfold Nc at hc2 he2
      by_cases as : asb t T s bs st' j
      · rw [b2i_pos as, if_pos rfl] at hc2 he2
        rw [b2i_pos as]
        refine ⟨fun d => absurd d (by omega), fun _ => ?_⟩
        refine k94_97 u1 u2 u3 v M _ found j u9 steps u11 1 h2 Q ⟨fun d => absurd d (by omega), fun _ => ⟨by unfold inR; omega, fun ne => ?_, fun ne => ⟨by unfold inR; omega, ?_⟩⟩⟩
        · obtain ⟨f', hf'⟩ : ∃ f', f = f' + 1 := ⟨f - 1, by omega⟩
          subst hf'
          refine k94_126 u1 u2 u3 v M _ found j u9 steps 1 h2 Q ⟨fun d => absurd d (by omega), fun _ => ⟨by unfold inR; omega, fun d => absurd d (by omega), fun _ => ?_⟩⟩
          refine k94_145 u1 u2 u3 v M _ found j u9 steps _ 1 h2 Q ⟨fun d => absurd d (by omega), fun _ => ⟨by unfold inR; omega, by unfold inR; omega, ?_⟩⟩
          have := ih f' (by omega) (j + 1) st' found h2 (steps + 1) (vI 1) (by omega) (by omega) f2 fs2 vd2 n0 n1 hs2 hf2 hc2 he2
          rw [show ((steps + 1 : Nat) : Int) = (steps : Int) + 1 by omega] at this
          exact this
        · have f0 : f = 0 := by omega
          subst f0
          have je : j + 1 = bs + s 1 bs 9 := by omega
          rw [show (found : Int) + 1 = ((found + 1 : Nat) : Int) by omega]
          refine ⟨fun lt => ?_, fun nl => ?_⟩
          · refine k94_126 u1 u2 u3 v M _ _ j u9 steps 1 h2 Q ⟨fun d => absurd d (by omega), fun _ => ⟨by unfold inR; omega, fun _ => ?_, fun d => absurd (by omega) d⟩⟩
            exact k145 (by omega) (hc2 (by show found + 1 < M; omega) h2 steps f2 fs2 rfl (fun _ _ _ => rfl) (by omega))
          · have e1 : ((found + 1 : Nat) : Int) = M := by omega
            rw [e1]
            have e2 : M - found - 1 = 0 := by omega
            refine he2 (by show M ≤ found + 1; omega) h2 st' ?_ (by rw [← je]; exact fs2) f2
            rw [e2]; rfl
      · rw [b2i_neg as, if_neg (by omega)] at hc2 he2
        rw [b2i_neg as]
        refine ⟨fun _ => k96f (by omega) (hc2 (by show found + 0 < M; omega) h2 steps f2 fs2 rfl (fun _ _ _ => rfl) (by omega)), fun d => absurd rfl d⟩
    -- one choice after the other
    have CH : ∀ (S : Nat → fZ) (m' : Nat), (∀ c, c < m' → fVd nd T s bs (S c) (j + 1)) → (∀ c hh, fS hh (S c) bs (j + 1) → fS hh st bs j) →
        (∀ c hh (K' : Int → zH → Prop), c < m' → frP (fun b k => fiA b k ∧ ¬ (b = 56 ∧ k = 9)) h0 hh → fS hh (S c) bs (j + 1) → (c + 1 < m' → ∀ h6, frP (fun b k => 57 ≤ b ∧ b ≤ 61 ∧ k = j) hh h6 → fS h6 (S (c + 1)) bs (j + 1) → K' 1 h6) → (¬ c + 1 < m' → ∀ h6, frP (fun b k => 57 ≤ b ∧ b ≤ 61 ∧ k = j) hh h6 → K' 0 h6) → zC1 96 [vR 56 105, vI j] hh K') →
        gI h1 56 6 + 1 ≤ kcn s bs (j + 1) →
        ∀ (d c found : Nat) (h2 : zH) (steps : Nat) (u9 u11 : zV), c + (d + 1) = m' → frP (fun b k => fiA b k ∧ ¬ (b = 56 ∧ k = 9)) h0 h2 → fS h2 (S c) bs (j + 1) → gI h2 56 6 = gI h1 56 6 + 1 → gI h2 62 (gI h1 56 6) = j → (∀ i, 0 ≤ i → i < gI h1 56 6 → gI h2 62 i = gI h1 62 i) → steps + (d + 1) * (cst s f (j + 1) + 2) < 1000000 → found < M →
          (found + ((List.range' c (d + 1)).flatMap (fun c => Nc t w T s bs v f j (S c))).length < M → ∀ h3 steps3, frP (fun b k => fiA b k ∧ ¬ (b = 56 ∧ k = 9)) h0 h3 → fS h3 st bs j → gI h3 56 6 = gI h1 56 6 → (∀ i, 0 ≤ i → i < gI h1 56 6 → gI h3 62 i = gI h1 62 i) → steps3 ≤ steps + (d + 1) * (cst s f (j + 1) + 2) → cTn s bs v u1 u2 u3 M Q h3 (found + ((List.range' c (d + 1)).flatMap (fun c => Nc t w T s bs v f j (S c))).length) steps3) →
          (M ≤ found + ((List.range' c (d + 1)).flatMap (fun c => Nc t w T s bs v f j (S c))).length → ∀ h3 e, ((List.range' c (d + 1)).flatMap (fun c => Nc t w T s bs v f j (S c)))[M - found - 1]? = some e → fS h3 e bs (bs + s 1 bs 9) → frP (fun b k => fiA b k ∧ ¬ (b = 56 ∧ k = 9)) h0 h3 → Q (some (vI M)) h3) →
          zK 94 83 [vR 56 105, u1, u2, u3, vI v, vI M, vI (bs + s 1 bs 9), vI found, vI j, u9, vI steps, u11] [] h2 Q := by
      intro S m' vdS agS more kk1 d
      induction d with
      | zero =>
        intro c found h2 steps u9 u11 ec f2 fs2 e6 e62 e62' hs2 hf2 hc2 he2
        rw [List.range'_succ, List.flatMap_cons, show (List.range' (c + 1) 0).flatMap (fun c => Nc t w T s bs v f j (S c)) = [] from rfl, List.append_nil] at hc2 he2
        refine NX (S c) found h2 steps u9 u11 f2 fs2 (vdS c (by omega)) (by omega) (by omega) (by omega) hf2 (fun lt h3 steps3 f3 fs3 g6 g62 st3 u11 => ?_) he2
        have g62k : gI h3 62 (gI h1 56 6) = j := by rw [g62 _ (by omega) (by omega)]; exact e62
        rw [g6, e6, show gI h1 56 6 + 1 - 1 = gI h1 56 6 by omega]
        refine k95_7 (gI h1 56 6) h3 _ ⟨fun d => absurd d (by omega), fun _ => ⟨by omega, by omega, ?_⟩⟩
        rw [g62k]
        refine more c h3 _ (by omega) f3 fs3 (fun d => absurd d (by omega)) (fun _ h6 f6 => ⟨fun _ h4 e4 => ⟨by unfold inR; omega, ?_⟩, fun d => absurd rfl d⟩)
        have F4 : frP (fun b k => fiA b k ∧ ¬ (b = 56 ∧ k = 9)) h0 h4 := by rw [e4]; exact (f3.tr (f6.mo (fun b k q => by unfold fiA; omega))).st (by unfold fiA; omega)
        have q := hc2 lt h4 steps3 F4 (by
          rw [e4]
          exact ((agS c h3 fs3).fr f6 (fun b k _ _ _ _ => by omega)).fr (P := fun b k => b = 56) (frP.rf.st rfl) (fun b k _ _ _ _ => by omega)) (by rw [e4, gS1]) (fun i i0 i1 => by rw [e4, gS, if_neg (by omega), f6.1 _ _ (by omega), g62 _ i0 (by omega)]; exact e62' i i0 i1) (by omega) u11
        rw [show gI h4 56 6 - 1 = gI h1 56 6 + -1 by rw [e4, gS1]; omega] at q
        exact q
      | succ d ihd =>
        intro c found h2 steps u9 u11 ec f2 fs2 e6 e62 e62' hs2 hf2 hc2 he2
        rw [List.range'_succ, List.flatMap_cons] at hc2 he2
        have em : (d + 1 + 1) * (cst s f (j + 1) + 2) = (d + 1) * (cst s f (j + 1) + 2) + (cst s f (j + 1) + 2) := by rw [Nat.succ_mul]
        rw [em] at hc2 hs2
        refine NX (S c) found h2 steps u9 u11 f2 fs2 (vdS c (by omega)) (by omega) (by omega) (by omega) hf2 (fun lt h3 steps3 f3 fs3 g6 g62 st3 u11 => ?_) (fun le h3 e ee => he2 (by rw [List.length_append]; omega) h3 e (by rw [ix1 le hf2]; exact ee))
        have g62k : gI h3 62 (gI h1 56 6) = j := by rw [g62 _ (by omega) (by omega)]; exact e62
        rw [g6, e6, show gI h1 56 6 + 1 - 1 = gI h1 56 6 by omega]
        refine k95_7 (gI h1 56 6) h3 _ ⟨fun d => absurd d (by omega), fun _ => ⟨by omega, by omega, ?_⟩⟩
        rw [g62k]
        refine more c h3 _ (by omega) f3 fs3 (fun _ h6 f6 fs6 => ⟨fun d => absurd d (by omega), fun _ => ⟨by omega, by omega, ?_⟩⟩) (fun d => absurd (by omega) d)
        have F6 : frP (fun b k => fiA b k ∧ ¬ (b = 56 ∧ k = 9)) h0 h6 := f3.tr (f6.mo (fun b k q => by unfold fiA; omega))
        have h62k : gI h6 62 (gI h1 56 6) = j := by rw [f6.1 _ _ (by omega)]; exact g62k
        rw [h62k]
        refine ⟨j, rfl, by unfold inR; omega, ?_⟩
        refine k94_54 u1 u2 u3 v M _ _ j 0 _ u11 h6 Q ⟨fun d => absurd d (by omega), fun _ => ⟨fun d => by omega, fun _ => ⟨fun _ => ?_, fun d => absurd rfl d⟩⟩⟩
        have := ihd (c + 1) (found + (Nc t w T s bs v f j (S c)).length) h6 (steps3 + 1) (vI 0) u11 (by omega) F6 fs6 (by rw [f6.1 _ _ (by omega), g6]; exact e6) h62k (fun i i0 i1 => by rw [f6.1 _ _ (by omega), g62 _ i0 (by omega)]; exact e62' i i0 i1) (by omega) lt
          (fun lt2 h7 steps7 f7 fs7 a6 a62 st7 => by
            have := hc2 (by rw [List.length_append]; omega) h7 steps7 f7 fs7 a6 a62 (by omega)
            rw [List.length_append, ← Nat.add_assoc] at this
            exact this)
          (fun le h7 e ee => he2 (by rw [List.length_append]; omega) h7 e (by rw [ix2 lt]; exact ee))
        rw [show ((steps3 + 1 : Nat) : Int) = (steps3 : Int) + 1 by omega] at this
        exact this
    have cs1 : cst s (f + 1) j = mlt (s 1 j 0) * (cst s f (j + 1) + 2) := rfl
    have hsj := hs
    rw [cs1] at hsj hc
    have ml : cst s f (j + 1) + 2 ≤ mlt (s 1 j 0) * (cst s f (j + 1) + 2) := by
      have := Nat.mul_le_mul_right (cst s f (j + 1) + 2) (mlt_1 (s 1 j 0))
      omega
    rw [Wc_s] at hc he
    refine k94_54 u1 u2 u3 v M _ found j 1 steps u11 h1 Q ⟨fun d => absurd d (by omega), fun _ => ⟨fun d => by omega, fun _ => ⟨fun d => absurd d (by omega), fun _ => ?_⟩⟩⟩
    refine s98 g (yf h1 fr1) (pf h1 fr1) o x b (qf h1 fr1) hv fs1 vd j0 j1 (fun c => ?_) (fun c5 rb h2 f2 fs2 a1 a2 => ⟨fun d => absurd d (by omega), fun _ => ?_⟩) (fun c5 rb h2 f2 fs2 => ⟨fun d => absurd d (by omega), fun _ => ?_⟩) (fun c5 cr h2 f2 => ⟨fun _ => ?_, fun d => absurd rfl d⟩) (fun c2 cr h2 f2 fs2 a1 a2 => ⟨fun d => absurd d (by omega), fun _ => ?_⟩) (fun c5 c2 cr h2 f2 fs2 => ?_)
    · rw [if_pos (by omega)] at ks
      omega
    · -- a row with a choice
      rw [if_pos c5, if_pos rb] at hc he
      rw [if_pos (Or.inl c5)] at ks
      have ro := x.ro (y := j) (by omega) (by omega) c5
      have jb : bs < j := by
        have : ¬ j = bs := fun c => b.2.2 (c ▸ c5)
        omega
      have vb := vs.1 jb ro.2
      have sb := x.bh2 (y := j) (by omega) (by omega) ro.2
      have F2 : frP (fun b k => fiA b k ∧ ¬ (b = 56 ∧ k = 9)) h0 h2 := fr1.tr (f2.mo (fun b k q => by unfold fiA; unfold feC feA at q; omega))
      have m13 : mlt (s 1 j 0) = 13 := by unfold mlt; rw [if_neg (by omega), if_pos c5]
      rw [m13] at hsj hc
      rw [List.range_eq_range'] at hc he
      have bd : ((fR T s bs st j - sbh s j).toNat + 1) * (cst s f (j + 1) + 2) ≤ 13 * (cst s f (j + 1) + 2) := Nat.mul_le_mul_right _ (by omega)
      refine CH (fun c => fW T st j (fA s bs v st j) (fR T s bs st j) c) ((fR T s bs st j - sbh s j).toNat + 1) (fun c hc => fVd_W x b vd vs jb j1 c5 (by omega)) (fun c hh hfs i i0 i1 => ?_) (fun c hh K' hc fh fsh k1 k0 => ?_) (by omega) _ 0 found h2 steps _ _ (by omega) F2 fs2 a2 a1 (fun i i0 i1 => f2.1 _ _ (by unfold feC feA; omega)) (by omega) hf (fun lt h3 steps3 f3 fs3 a6 a62 st3 => hc lt h3 steps3 f3 fs3 a6 a62 (by omega)) he
      · have := hfs i i0 (by omega)
        unfold fW at this
        have ne : ¬ i = j := by omega
        rw [fU_o ne, fU_o ne, fU_o ne, fU_o ne, fU_o ne] at this
        exact this
      · refine s96r g (yf hh fh) (pf hh fh) x (qf hh fh) (by omega) j0 c5 ro.2 fsh (by omega) (by omega) (fun d => ?_) (fun d h6 f6 fs6 => k1 (by omega) h6 f6 fs6) (fun d h6 f6 => k0 (by omega) h6 f6)
        have pt := g.pt vb.1 vb.2.1 (k := (T (st 0 (s 1 j 3)) 3 - fR T s bs st j).toNat + c) (by omega)
        rw [adv_add, ← vb.2.2.2.2] at pt
        omega
    · -- the last row
      rw [if_pos c5, if_neg rb] at hc he
      have ro := x.ro (y := j) (by omega) (by omega) c5
      have jb : bs < j := by
        have : ¬ j = bs := fun c => b.2.2 (c ▸ c5)
        omega
      have vb := vs.1 jb ro.2
      have sb := x.bh2 (y := j) (by omega) (by omega) ro.2
      have F2 : frP (fun b k => fiA b k ∧ ¬ (b = 56 ∧ k = 9)) h0 h2 := fr1.tr (f2.mo (fun b k q => by unfold fiA; unfold feA at q; omega))
      have e6 : gI h2 56 6 = gI h1 56 6 := f2.1 _ _ (by unfold feA; omega)
      rw [if_pos (Or.inl c5)] at ks
      refine NX _ found h2 steps _ _ F2 fs2 (fVd_W x b vd vs jb j1 c5 (by omega)) (by omega) (by omega) (by omega) hf (fun lt h3 steps3 f3 fs3 a6 a62 st3 => hc lt h3 steps3 f3 (fun i i0 i1 => ?_) (by omega) (fun i i0 i1 => by rw [a62 i i0 (by omega)]; exact f2.1 _ _ (by unfold feA; omega)) (by omega)) he
      have := fs3 i i0 (by omega)
      unfold fW at this
      have ne : ¬ i = j := by omega
      rw [fU_o ne, fU_o ne, fU_o ne, fU_o ne, fU_o ne] at this
      exact this
    · -- no room
      rw [if_neg c5, if_pos cr] at hc he
      have F2 : frP (fun b k => fiA b k ∧ ¬ (b = 56 ∧ k = 9)) h0 h2 := fr1.tr (f2.mo (fun b k q => by unfold fiA; unfold feA at q; omega))
      have e6 : gI h2 56 6 = gI h1 56 6 := f2.1 _ _ (by unfold feA; omega)
      exact k96f (by omega) (hc (by show found + 0 < M; omega) h2 steps F2 (fs1.fr f2 (fun b k _ _ _ _ => by unfold feA; omega)) e6 (fun i i0 i1 => f2.1 _ _ (by unfold feA; omega)) (by omega))
    · -- something deep
      have c5 : ¬ s 1 j 0 = 5 := by omega
      rw [if_neg c5, if_neg cr, if_pos c2] at hc he
      rw [if_pos (Or.inr c2)] at ks
      have va := vs.2.2.1 (by omega)
      have sz := g.sz va.1 va.2
      have F2 : frP (fun b k => fiA b k ∧ ¬ (b = 56 ∧ k = 9)) h0 h2 := fr1.tr (f2.mo (fun b k q => by unfold fiA; unfold feC feA at q; omega))
      have m60 : mlt (s 1 j 0) = 60 := by unfold mlt; rw [if_pos c2]
      rw [m60] at hsj hc
      rw [List.range_eq_range'] at hc he
      obtain ⟨d, hd⟩ : ∃ d : Nat, (T (fA s bs v st j) 6).toNat = d + 1 := ⟨(T (fA s bs v st j) 6).toNat - 1, by omega⟩
      rw [hd] at hc he
      have bd : (d + 1) * (cst s f (j + 1) + 2) ≤ 60 * (cst s f (j + 1) + 2) := Nat.mul_le_mul_right _ (by omega)
      refine CH (fun c => fO T st j (fA s bs v st j) (fR T s bs st j) c) (d + 1) (fun c hc => fVd_O g x b vd vs j0 j1 c5 cr (by omega) (fun e => absurd c2 e)) (fun c hh hfs i i0 i1 => ?_) (fun c hh K' hc fh fsh k1 k0 => ?_) (by omega) d 0 found h2 steps _ _ (by omega) F2 fs2 a2 a1 (fun i i0 i1 => f2.1 _ _ (by unfold feC feA; omega)) (by omega) hf (fun lt h3 steps3 f3 fs3 a6 a62 st3 => hc lt h3 steps3 f3 fs3 a6 a62 (by omega)) he
      · have := hfs i i0 (by omega)
        unfold fO at this
        have ne : ¬ i = j := by omega
        rw [fU_o ne, fU_o ne, fU_o ne, fU_o ne, fU_o ne] at this
        exact this
      · exact s96d (pf hh fh) x (qf hh fh) (by omega) j0 c2 fsh (by omega) (by omega) (fun d h6 f6 fs6 => k1 (by omega) h6 f6 fs6) (fun d h6 f6 => k0 (by omega) h6 f6)
    · -- one node
      rw [if_neg c5, if_neg cr, if_neg c2] at hc he
      rw [if_neg (by omega), Int.add_zero] at ks
      have va := vs.2.2.1 (by omega)
      have sz := g.sz va.1 va.2
      have F2 : frP (fun b k => fiA b k ∧ ¬ (b = 56 ∧ k = 9)) h0 h2 := fr1.tr (f2.mo (fun b k q => by unfold fiA; unfold feA at q; omega))
      have e6 : gI h2 56 6 = gI h1 56 6 := f2.1 _ _ (by unfold feA; omega)
      by_cases ok : okI t w T s (fA s bs v st j) j ∧ (s 1 j 0 = 4 → hpP s j (T (fA s bs v st j) 3))
      · rw [b2i_pos ok, if_pos rfl] at hc he
        rw [b2i_pos ok]
        refine ⟨fun d => absurd d (by omega), fun _ => ?_⟩
        refine NX _ found h2 steps _ _ F2 fs2 (fVd_O g x b vd vs j0 j1 c5 cr (d := 0) (by omega) (fun _ => rfl)) (by omega) (by omega) (by omega) hf (fun lt h3 steps3 f3 fs3 a6 a62 st3 => hc lt h3 steps3 f3 (fun i i0 i1 => ?_) (by omega) (fun i i0 i1 => by rw [a62 i i0 (by omega)]; exact f2.1 _ _ (by unfold feA; omega)) (by omega)) he
        have := fs3 i i0 (by omega)
        unfold fO at this
        have ne : ¬ i = j := by omega
        rw [fU_o ne, fU_o ne, fU_o ne, fU_o ne, fU_o ne] at this
        exact this
      · rw [b2i_neg ok, if_neg (by omega)] at hc he
        rw [b2i_neg ok]
        refine ⟨fun _ => ?_, fun d => absurd rfl d⟩
        exact k96f (by omega) (hc (by show found + 0 < M; omega) h2 steps F2 (fs1.fr f2 (fun b k _ _ _ _ => by unfold feA; omega)) e6 (fun i i0 i1 => f2.1 _ _ (by unfold feA; omega)) (by omega))
end XH
