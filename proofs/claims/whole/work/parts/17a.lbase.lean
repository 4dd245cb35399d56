/-! THE LAW: BOTH SIDES OF A CALL -/
/-- the state that both sides keep: length, wavelet, which nodes have children, the row -/
abbrev q_AS : Type := Nat × Nat × (Nat → Bool) × (Nat → Int64)
def q_KS (S : q_AS) (w : pW) : Prop := q_K S.1 S.2.1 S.2.2.1 S.2.2.2 w
def q_RS (S : q_AS) (w : pW) : Prop := q_R S.1 S.2.1 S.2.2.1 S.2.2.2 w
/-- what a wrapper of the law leaves alone -/
def q_FW (w w' : pW) : Prop := (∀ o, 24 ≤ o → w'.1 o = w.1 o) ∧ (∀ a, 24 ≤ a → w'.2.1 a = w.2.1 a) ∧ ∀ a, 24 ≤ a → w'.2.2 a = w.2.2 a
theorem q_FC.fw {w w' : pW} (h : q_FC w w') : q_FW w w' := ⟨fun o ho => h.1 o (by omega), fun o ho => h.2.1 o (by omega), fun o ho => h.2.2 o (by omega)⟩
theorem q_FC.fwo {w w' : pW} {g : Nat → Int64} (h : q_FC w w') : q_FW w (w'.1, q_r w'.2.1 23 g, w'.2.2) := ⟨fun o ho => h.1 o (by omega), fun o ho => (q_r_n (by omega)).trans (h.2.1 o (by omega)), fun o ho => h.2.2 o (by omega)⟩
theorem q_K.out {n wv : Nat} {sp : Nat → Bool} {x : Nat → Int64} {w : pW} {g : Nat → Int64} (h : q_K n wv sp x w) : q_K n wv sp x (w.1, q_r w.2.1 23 g, w.2.2) := by
  refine ⟨h.1, h.2.1, ?_⟩
  dsimp only
  rw [q_r_n (by decide)]
  exact h.2.2
theorem q_KS.fm {S : q_AS} {w w' : pW} (h : q_KS S w) (g : q_FM w w') : q_KS S w' := ⟨h.1.ww (g.1 1 (by decide)) (g.1 2 (by decide)) (g.2.2 18 (by decide)), h.2.1, by rw [g.2.1 11 (by decide)]; exact h.2.2⟩
theorem q_RS.fw {S : q_AS} {w w' : pW} (h : q_RS S w) (g : q_FW w w') : q_RS S w' := ⟨⟨by rw [g.1 24 (by decide)]; exact h.1.1, by rw [g.1 24 (by decide)]; exact h.1.2.1, h.1.2.2.1, h.1.2.2.2⟩, h.2.1, fun i hi => by rw [g.2.2 25 (by decide)]; exact h.2.2.1 i hi, by rw [g.2.1 26 (by decide)]; exact h.2.2.2⟩
/-- a wrapper's answer: t tells the throw, v lies in out -/
def q_Wr (w : pW) (S : q_AS) (e : Option pR) (t : Nat) (v : Int64) : Prop := ∃ w' c, e = some (.inl (some (.int (nI t))), w', c) ∧ c ≤ 1 ∧ q_KS S w' ∧ q_FW w w' ∧ (t = 0 → w'.2.1 23 0 = v)
theorem q_Zx0 {n wv : Nat} {sp : Nat → Bool} {x : Nat → Int64} {w : pW} {e : Option pR} {E : Nat} (h : q_K n wv sp x w) (he : e = some (.inr (.inl E), w, 1)) : q_Zx w n wv sp x e E := ⟨w, he, h, q_FC.rf⟩
def q_MRi (w : pW) (S : q_AS) (e : Option pR) (t : Nat) (b : Int32) : Prop := ∃ w' b', e = some (.inl (some (.int b')), w', 0) ∧ q_RS S w' ∧ w'.1 24 4 = nI t ∧ q_FM w w' ∧ (t = 0 → b' = b)
def q_MRl (w : pW) (S : q_AS) (e : Option pR) (t : Nat) (b : Int64) : Prop := ∃ w' b', e = some (.inl (some (.long b')), w', 0) ∧ q_RS S w' ∧ w'.1 24 4 = nI t ∧ q_FM w w' ∧ (t = 0 → b' = b)
section Lb
variable {n wv : Nat} {sp : Nat → Bool} {x : Nat → Int64} {w : pW}
theorem q_ZM.i {e : Option pR} {b : Int32} (h : q_ZM w n wv sp x e (.int b) 0) : q_MRi w (n, wv, sp, x) e 0 b := by
  obtain ⟨w', h1, h2, h3, h4⟩ := h
  exact ⟨w', b, h1, h2, h3, h4, fun _ => rfl⟩
theorem q_ZM.l {e : Option pR} {b : Int64} (h : q_ZM w n wv sp x e (.long b) 0) : q_MRl w (n, wv, sp, x) e 0 b := by
  obtain ⟨w', h1, h2, h3, h4⟩ := h
  exact ⟨w', b, h1, h2, h3, h4, fun _ => rfl⟩
theorem q_ZTi.r {e : Option pR} {b : Int32} {t : Nat} (h : q_ZTi w n wv sp x e t) (ht : t ≠ 0) : q_MRi w (n, wv, sp, x) e t b := by
  obtain ⟨w', h1, h2, h3, h4⟩ := h
  exact ⟨w', _, h1, h2, h3, h4, fun z => absurd z ht⟩
theorem q_ZTl.r {e : Option pR} {b : Int64} {t : Nat} (h : q_ZTl w n wv sp x e t) (ht : t ≠ 0) : q_MRl w (n, wv, sp, x) e t b := by
  obtain ⟨w', h1, h2, h3, h4⟩ := h
  exact ⟨w', _, h1, h2, h3, h4, fun z => absurd z ht⟩
end Lb
/-- the law's loop comes round: from place 4 * i to the next, both sides in state S -/
def q_IT (i : Nat) (S : q_AS) (e : Option pR) : Prop := ∃ w' z5 z6 z7 c, e = some (.inr (.inr [.ref 999, .ref 0, .ref 24, .ref 23, .int (nI (4 * i + 4)), z5, z6, z7]), w', c) ∧ c ≤ 1 ∧ q_KS S w' ∧ q_RS S w'
theorem q_bnd_c {scr : pX} {mi pc pc1 c : Nat} {L rest : List Value} {v : Value} {w1 : pW} : p_bnd scr mi pc pc1 L rest (some (.inl (some v), w1, c)) = (p_ev scr mi pc1 L (v :: rest) w1).map (fun q => (q.1, q.2.1, c + q.2.2)) := rfl
theorem q_bnd_m {o : Option pR} {c : Nat} {a : pO} {b : pW} (h : o = some (a, b, 0)) : o.map (fun q => (q.1, q.2.1, c + q.2.2)) = some (a, b, c) := by
  rw [h]; rfl
