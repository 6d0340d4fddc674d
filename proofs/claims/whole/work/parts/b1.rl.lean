/-! ===== the law: what stands between two of its calls ===== -/
def RE (B a0 N : Nat) (g : Nat → Int32) (V Q : Nat → Nat) (s : am_S) : Prop := EVd B s ∧ EVv B s V ∧ ELt B s Q ∧ (∃ q, stR s 100 = some q ∧ STR B s q [32, 118]) ∧ (∃ q, stR s 101 = some q ∧ STR B s q [32, 108]) ∧ a0 < B ∧ s.1 a0 = some (.inl (.int, N, .inl g))
def RK (B : Nat) (s : am_S) (x sb vb C n : Nat) (D : Nat → Option (Nat × stT)) (l : List Int32) (F T W : Nat → Int32) (τ : stT) : Prop := SS s sb τ ∧ q_slot x (x + 505) D s ∧ XSc s (x + 438) F T W ∧ F 2 = nI n ∧ n ≤ 500 ∧ SBs B s (x + 441) vb C l ∧ (vb = x + 442 ∨ x + 505 ≤ vb) ∧ ∀ i a ρ, i < 2 → D i = some (a, ρ) → vb < a ∨ a + 218 ≤ vb
def RSl (G : mrT) (u i : Nat) (o : Option (Nat × stT)) : Prop := match o with
  | none => G 4 i = 0
  | some (_, ρ) => G 4 i ≠ 0 ∧ FR (fun k => G 3 (1329 * i + k)) ρ ∧ SZ ρ ∧ IA u ρ ∧ ILp ρ
def RV (v : Nat → Int32) (G : mrT) (D : Nat → Option (Nat × stT)) (u n : Nat) (l : List Int32) (F T : Nat → Int32) : Prop := CT G T n ∧ v 9 = nI n ∧ v 15 = F 7 ∧ v 16 = (if F 7 = 0 then -1 else F 5) ∧ v 21 = nI l.length ∧ (∀ i, i < l.length → G 11 i = l.getD i 0) ∧ l.length ≤ 60 ∧ ∀ i, i < 2 → RSl G u i (D i)
def JW (B a0 N : Nat) (g : Nat → Int32) (V Q : Nat → Nat) (s : am_S) (x u k1 k2 nb sb vb C n : Nat) (D : Nat → Option (Nat × stT)) (l : List Int32) (F T W v : Nat → Int32) (G : mrT) (f : Nat → Int64) (σ τ : stT) : Prop := RE B a0 N g V Q s ∧ CX B s x nb sb u σ ∧ (nb = x + 1 ∧ sb = x + 219 ∨ nb = x + 219 ∧ sb = x + 1) ∧ RK B s x sb vb C n D l F T W τ ∧ MM B s (x + 492) v G σ ∧ RV v G D u n l F T ∧ s.1 (x + 504) = some (.inl (.long, 1, .inr (.inl f))) ∧ x + 505 ≤ s.2.1 ∧ s.2.1 ≤ k1 + gC C ∧ s.2.2.1 ≤ k2 + gS C
def JL (B a0 N : Nat) (g : Nat → Int32) (V Q : Nat → Nat) (s : am_S) (x u k1 k2 : Nat) : Prop := ∃ nb sb vb C n D l F T W v G f σ τ, JW B a0 N g V Q s x u k1 k2 nb sb vb C n D l F T W v G f σ τ
section Lr
variable {B a0 N x u u' k1 k2 nb sb vb C n i t : Nat} {g : Nat → Int32} {V Q : Nat → Nat} {s s' s1 s2 : am_S} {D : Nat → Option (Nat × stT)} {l : List Int32} {F T W v v' : Nat → Int32} {G G' : mrT} {f f' : Nat → Int64} {σ σ' τ : stT} {o : Option (Nat × stT)}
theorem RE.at (h : RE B a0 N g V Q s) (hs : ∀ q, q < B → s'.1 q = s.1 q) (ht : s'.2.2.2 = s.2.2.2) : RE B a0 N g V Q s' := by
  obtain ⟨h1, h2, h3, ⟨q, h4, h5⟩, ⟨q', h6, h7⟩, h8, h9⟩ := h
  exact ⟨h1.at hs ht, h2.at hs ht, h3.at hs ht, ⟨q, (st_cg ht _).2.1.trans h4, h5.at hs⟩, ⟨q', (st_cg ht _).2.1.trans h6, h7.at hs⟩, h8, (hs _ h8).trans h9⟩
theorem q_slot.at (h : q_slot x (x + 505) D s) (h0 : s'.1 (x + 437) = s.1 (x + 437)) (hs : ∀ q, q < s.2.1 → x + 505 ≤ q → s'.1 q = s.1 q) (hm : s.2.1 ≤ s'.2.1) : q_slot x (x + 505) D s' := by
  refine ⟨h0.trans h.1, fun i hi a ρ hD => ?_⟩
  obtain ⟨h1, h2, h3, h4⟩ := h.2 i hi a ρ hD
  exact ⟨h1, Nat.le_trans h2 hm, SR.at h3 (fun q q1 q2 => hs q (by omega) (by omega)), h4⟩
theorem SBs.mv {a : Nat} (h : SBs B s a vb C l) (h0 : s'.1 a = s.1 a) (h1 : s'.1 vb = s.1 vb) (hm : s.2.1 ≤ s'.2.1) : SBs B s' a vb C l := by
  obtain ⟨⟨ml, k1⟩, ⟨b, k2, k3⟩, k4, k5, k6, k7, k8, k9, k10⟩ := h
  exact ⟨⟨ml, h0.trans k1⟩, ⟨b, h1.trans k2, k3⟩, k4, k5, k6, k7, k8, Nat.lt_of_lt_of_le k9 hm, Nat.lt_of_lt_of_le k10 hm⟩
theorem SBs.vlt {a : Nat} (h : SBs B s a vb C l) : vb < s.2.1 := h.2.2.2.2.2.2.2.2
theorem RK.at (h : RK B s x sb vb C n D l F T W τ) (hs : ∀ q, q < s.2.1 → (q < nb ∨ nb + 218 ≤ q) → (q < x + 443 ∨ x + 505 ≤ q) → s'.1 q = s.1 q) (hm : s.2.1 ≤ s'.2.1) (hx : x + 505 ≤ s.2.1) (hb : nb = x + 1 ∧ sb = x + 219 ∨ nb = x + 219 ∧ sb = x + 1) : RK B s' x sb vb C n D l F T W τ := by
  obtain ⟨h1, h2, h3, h4, h5, h6, h7, h8⟩ := h
  have hv := h6.vlt
  exact ⟨SR.at h1 (fun q q1 q2 => hs q (by omega) (by omega) (by omega)), h2.at (hs _ (by omega) (by omega) (by omega)) (fun q q1 q2 => hs q q1 (by omega) (by omega)) hm, OV.at h3 (fun q q1 q2 => hs q (by omega) (by omega) (by omega)), h4, h5, h6.mv (hs _ (by omega) (by omega) (by omega)) (hs _ hv (by omega) (by omega)) hm, h7, h8⟩
theorem RSl.up (h : RSl G u i o) (e3 : G' 3 = G 3) (e4 : G' 4 = G 4) (hu : u ≤ u') : RSl G' u' i o := by
  cases o with
  | none => exact (congrFun e4 i).trans h
  | some p =>
    obtain ⟨h1, h2, h3, h4, h5⟩ := h
    refine ⟨fun e => h1 ((congrFun e4 i).symm.trans e), ?_, h3, h4.mono hu, h5⟩
    rw [e3]
    exact h2
theorem RV.up (h : RV v G D u n l F T) (hk : KM v v' G G') (hu : u ≤ u') : RV v' G' D u' n l F T := by
  obtain ⟨⟨c1, c2, c3⟩, h2, h3, h4, h5, h6, h7, h8⟩ := h
  refine ⟨⟨c1, ?_, c3⟩, (hk.2 9 (by omega) (by omega)).trans h2, (hk.2 15 (by omega) (by omega)).trans h3, (hk.2 16 (by omega) (by omega)).trans h4, (hk.2 21 (by omega) (by omega)).trans h5, fun i hi => ?_, h7, fun i hi => (h8 i hi).up (hk.1 3 (by omega)) (hk.1 4 (by omega)) hu⟩
  · rw [hk.1 7 (by omega)]
    exact c2
  · rw [hk.1 11 (by omega)]
    exact h6 i hi
/-- a call of each side that leaves texts and snapshots alone -/
theorem JW.step (h : JW B a0 N g V Q s x u k1 k2 nb sb vb C n D l F T W v G f σ τ) (h1 : CW s s1 x nb (x + 504)) (S1 : SS s1 nb σ') (P1 : PST s1 x) (T1 : s1.1 (x + 504) = some (.inl (.long, 1, .inr (.inl f')))) (h2 : MQL s1 s2 (x + 492) v G σ') (hA : IA (u + 9) σ') (hL : ILp σ') (h5 : σ'.1 5 ≤ 8) (hu : u + 18 < 2 ^ 24) : JL B a0 N g V Q s2 x (u + 9) (k1 + 218) (k2 + 1612) := by
  obtain ⟨w1, w2, w3, w4, w5, w6, w7, w8, w9, w10⟩ := h
  obtain ⟨o2, v', G', M2, R2, K2⟩ := h2
  obtain ⟨c1, c2, c3, c4, c5, c6⟩ := h1
  have n0 := w2.n
  have ec : ∀ q, q < s.2.1 → (q < nb ∨ nb + 218 ≤ q) → (q < x + 443 ∨ x + 505 ≤ q) → s2.1 q = s.1 q := fun q q1 q2 q3 => (o2.1 q (by omega)).trans (c1 q q1 q2 (by omega) (by omega))
  have es : s2.2 = s1.2 := o2.2
  have hg : s2.2.1 = s1.2.1 := congrArg (fun p => p.1) es
  have hg2 : s2.2.2.1 = s1.2.2.1 := congrArg (fun p => p.2.1) es
  have hg3 : s2.2.2.2 = s1.2.2.2 := congrArg (fun p => p.2.2) es
  refine ⟨nb, sb, vb, C, n, D, l, F, T, W, v', G', f', σ', τ, ?_⟩
  refine ⟨w1.at (fun q hq => ec q (by omega) (by omega) (by omega)) (hg3.trans c6), ⟨?_, SR.at S1 (fun q q1 q2 => o2.1 q (by omega)), hA, hL, P1.at (fun q q1 q2 => o2.1 q (by omega)), n0.2.2.2, w2.2.2.2.2.2.2.1, by omega⟩, w3, w4.at ec (by omega) w8 w3, ⟨M2, R2, SZ.of hA h5, by omega⟩, w6.up K2 (by omega), (o2.1 _ (by omega)).trans T1, by omega, by omega, by omega⟩
  exact (ec x (by omega) (by omega) (by omega)).trans w2.o
end Lr
