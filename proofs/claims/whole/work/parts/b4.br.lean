/-! ===== the law: one branch, in general ===== -/
noncomputable def jR (B pc a0 x : Nat) (z : Int32) (s : am_S) : am_R := rn_ tb_ct tb_mt B mm_L_law pc [.ref a0, .ref x, .ref (x + 492), .ref (x + 504), .int z, am_un, am_un, am_un, am_un] [] s
def jZ (s : am_S) : am_R := some (.inl (some (.int (0 : Int32))), s)
def JN (B a0 N : Nat) (g : Nat → Int32) (V Q : Nat → Nat) (x u k1 k2 j : Nat) (R : am_R) : Prop := ∃ s', R = jR B 23 a0 x (nI j + 5) s' ∧ JL B a0 N g V Q s' x (u + 9) (k1 + 218) (k2 + 1612)
section Lb
variable {B a0 N x u k1 k2 nb sb vb C n i j t : Nat} {g : Nat → Int32} {V Q : Nat → Nat} {s s' s1 s2 : am_S} {D : Nat → Option (Nat × stT)} {l : List Int32} {F T W v : Nat → Int32} {G : mrT} {f f' : Nat → Int64} {σ σ' τ : stT} {z w : Int32} {ok ok1 ok2 : Bool} {a : Int64} {R : am_R} {H : Nat → am_S → am_R}
theorem RE.rd (h : RE B a0 N g V Q s) (hj : j + i < N) (hN : N < 2 ^ 31) (e : z = nI i) : aI s a0 (nI j + z) = some (g (j + i)) := by
  rw [e, nI_add _ _]
  exact aI_o h.2.2.2.2.2.2 hj hN
theorem JW.pk (h : JW B a0 N g V Q s x u k1 k2 nb sb vb C n D l F T W v G f σ τ) : PK u σ := ⟨h.2.1.a, h.2.1.2.2.2.1, h.2.2.2.2.1.2.2.1.2.2.2.2.1⟩
theorem JW.ib (h : JW B a0 N g V Q s x u k1 k2 nb sb vb C n D l F T W v G f σ τ) : σ.1 0 ≤ u ∧ σ.1 7 + σ.1 6 ≤ 32 * u ∧ σ.1 8 ≤ u ∧ σ.1 2 ≤ 1000 * u := h.2.1.a.2.2.2.2.2
theorem JW.ar (h : JW B a0 N g V Q s x u k1 k2 nb sb vb C n D l F T W v G f σ τ) : s.1 (x + 504) = some (.inl (.long, 1, .inr (.inl f))) := h.2.2.2.2.2.2.1
theorem JW.mid (h : JW B a0 N g V Q s x u k1 k2 nb sb vb C n D l F T W v G f σ τ) (cw : CW s s1 x nb (x + 504)) : RE B a0 N g V Q s1 ∧ MM B s1 (x + 492) v G σ := by
  obtain ⟨w1, w2, w3, w4, w5, w6, w7, w8, w9, w10⟩ := h
  have n0 := w2.n
  refine ⟨w1.at (fun q hq => cw.1 q (by omega) (by omega) (by omega) (by omega)) cw.2.2.2.2.2, ?_, w5.2⟩
  exact OV.at w5.1 (fun q q1 q2 => cw.1 q (by omega) (by omega) (by omega) (by omega))
theorem cw_fr (h : fr s s' x nb) : CW s s' x nb t := by
  refine ⟨fun q _ h1 h2 _ => h.1 q h1 h2, ?_⟩
  rw [h.2]
  exact ⟨Nat.le_refl _, Nat.le_add_right _ _, Nat.le_refl _, Nat.le_add_right _ _, rfl⟩
theorem JW.t1 (h : JW B a0 N g V Q s x u k1 k2 nb sb vb C n D l F T W v G f σ τ) (hf : fr s s' x nb) : s'.1 (x + 504) = some (.inl (.long, 1, .inr (.inl f))) := by
  have n0 := h.2.1.n
  exact (hf.1 _ (by omega) (by omega)).trans h.ar
theorem JW.go (h : JW B a0 N g V Q s x u k1 k2 nb sb vb C n D l F T W v G f σ τ) (h1 : CW s s1 x nb (x + 504)) (S1 : SS s1 nb σ') (P1 : PST s1 x) (T1 : s1.1 (x + 504) = some (.inl (.long, 1, .inr (.inl f')))) (h2 : MQL s1 s2 (x + 492) v G σ') (hp : PK (u + 9) σ') (hu : u + 18 < 2 ^ 24) : JL B a0 N g V Q s2 x (u + 9) (k1 + 218) (k2 + 1612) := h.step h1 S1 P1 T1 h2 hp.1 hp.2.1 hp.2.2 hu
theorem wo_CO2t (h : CX B s x nb sb u σ) (ht : s.1 t = some (.inl (.long, 1, .inr (.inl f)))) (hl : x + 504 ≤ t) (hc : CO2 s x nb R ok1 true (.int w) σ') (hH : ∀ s', H 1 s' = some (.inl (some (.int 1)), s')) : WO s x nb t (cI R (fun y s1 => eS (wJ B s1 t (0 : Int32) y.toInt64) (fun s3 => some (.inl (some (.int (0 : Int32))), s3))) H) (if ok1 = true then 0 else 1) w.toInt64 (if ok1 = true then σ' else σ) := wo_CO2 h ht hl hc hH (Or.inl rfl)
theorem if_int2 (hk : a = w.toInt64) : ∃ w', (if ok1 = true then (if ok2 = true then Value.int w else .int 0) else .int 0) = .int w' ∧ ((if ok1 = true then (if ok2 = true then (0 : Int32) else 2) else 1) = 0 → a = w'.toInt64) := by
  cases ok1 with
  | true =>
    cases ok2 with
    | true => exact ⟨w, rfl, fun _ => hk⟩
    | false => exact ⟨0, rfl, fun e => absurd e (show (2 : Int32) ≠ 0 by decide)⟩
  | false => exact ⟨0, rfl, fun e => absurd e (show (1 : Int32) ≠ 0 by decide)⟩
end Lb
