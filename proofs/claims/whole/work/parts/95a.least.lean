/-! ===== least rounds: ways from a hole home, told as their spans ===== -/
def m_F : Int := 9223372036854775807
/-- from a hole (come to by i) through all that is left home, where b waits -/
def m_h (lw : Nat) (kd : Nat → Nat → Bool) (s : Nat) : Nat → Nat → Bool → Nat → Bool → List (Nat × Nat) → Prop
  | 0, last, i, _, b, E => r_may lw i (kd last s) = true ∧ r_may lw (kd last s) b = true ∧ E = [w_e last s]
  | f + 1, last, i, rest, b, E => ∃ h E', rest.testBit h = true ∧ r_may lw i (kd last h) = true ∧ m_h lw kd s f h (kd last h) (w_rm rest h) b E' ∧ E = w_e last h :: E'
/-- from the first hole through some to a hole, by how it ends and how it begins -/
def m_c (lw : Nat) (kd : Nat → Nat → Bool) (s : Nat) : Nat → Nat → Nat → Bool → Bool → List (Nat × Nat) → Prop
  | 0, hole, _, out, hm, E => kd s hole = out ∧ kd s hole = hm ∧ E = [w_e s hole]
  | f + 1, hole, rest, out, hm, E => ∃ last i E', rest.testBit last = true ∧ kd last hole = out ∧ r_may lw i out = true ∧ m_c lw kd s f last (w_rm rest last) i hm E' ∧ E = w_e last hole :: E'
theorem w_e_comm (a b : Nat) : w_e a b = w_e b a := by
  unfold w_e
  by_cases h : a < b
  · rw [if_pos h, if_neg (by omega)]
  · by_cases h' : b < a
    · rw [if_neg h, if_pos h']
    · rw [if_neg h, if_neg h', show a = b by omega]
theorem m_hc {lw : Nat} {kd : Nat → Nat → Bool} {s : Nat} (hk : ∀ a b, kd a b = kd b a) : ∀ (f hole : Nat) (k : Bool) (rest : Nat) (b : Bool) (E : List (Nat × Nat)), m_h lw kd s f hole k rest b E ↔ ∃ out hm, r_may lw k out = true ∧ r_may lw hm b = true ∧ m_c lw kd s f hole rest out hm E := by
  intro f
  induction f with
  | zero =>
    intro hole k rest b E
    constructor
    · rintro ⟨h1, h2, h3⟩
      exact ⟨kd s hole, kd s hole, by rw [hk s hole]; exact h1, by rw [hk s hole]; exact h2, rfl, rfl, by rw [h3, w_e_comm]⟩
    · rintro ⟨out, hm, h1, h2, rfl, h4, h5⟩
      rw [← h4] at h2
      rw [hk s hole] at h1 h2
      exact ⟨h1, h2, by rw [h5, w_e_comm]⟩
  | succ f ih =>
    intro hole k rest b E
    constructor
    · rintro ⟨h, E', h1, h2, h3, h4⟩
      obtain ⟨out, hm, g1, g2, g3⟩ := (ih h (kd hole h) (w_rm rest h) b E').mp h3
      refine ⟨kd hole h, hm, h2, g2, h, out, E', h1, hk h hole, by rw [r_may_comm]; exact g1, g3, by rw [h4, w_e_comm]⟩
    · rintro ⟨out, hm, h1, h2, last, i, E', g1, g2, g3, g4, g5⟩
      have e : kd hole last = out := by rw [hk hole last]; exact g2
      refine ⟨last, E', g1, by rw [e]; exact h1, ?_, by rw [g5, w_e_comm]⟩
      rw [e]
      exact (ih last out (w_rm rest last) b E').mpr ⟨i, hm, by rw [r_may_comm]; exact g3, h2, g4⟩
/-- where any round is lawful, it is all one how spans go -/
theorem m_h_0 {kd kd' : Nat → Nat → Bool} {s : Nat} : ∀ (f last : Nat) (i i' : Bool) (rest : Nat) (b b' : Bool) (E : List (Nat × Nat)), m_h 0 kd s f last i rest b E → m_h 0 kd' s f last i' rest b' E := by
  intro f
  induction f with
  | zero => rintro last i i' rest b b' E ⟨_, _, h⟩; exact ⟨rfl, rfl, h⟩
  | succ f ih => rintro last i i' rest b b' E ⟨h, E', h1, _, h3, h4⟩; exact ⟨h, E', h1, rfl, ih _ _ _ _ _ _ _ h3, h4⟩
def m_V (s last rest : Nat) (x : Nat) : Prop := x = last ∨ rest.testBit x = true ∨ x = s
theorem w_e_fst (a b : Nat) : (w_e a b).1 = a ∨ (w_e a b).1 = b := by unfold w_e; split <;> simp
theorem w_e_snd (a b : Nat) : (w_e a b).2 = a ∨ (w_e a b).2 = b := by unfold w_e; split <;> simp
theorem w_e_in (a b : Nat) : (w_e a b).1 = a ∨ (w_e a b).2 = a := by unfold w_e; split <;> simp
theorem w_e_lt {a b n : Nat} (h : a ≠ b) (ha : a < n) (hb : b < n) : (w_e a b).1 < (w_e a b).2 ∧ (w_e a b).2 < n := by
  unfold w_e; split <;> simp <;> omega
theorem w_e_inj {a b c : Nat} (h : w_e a b = w_e a c) : b = c := by
  unfold w_e at h
  by_cases h1 : a < b <;> by_cases h2 : a < c
  · rw [if_pos h1, if_pos h2] at h; exact (Prod.mk.inj h).2
  · rw [if_pos h1, if_neg h2] at h
    have := Prod.mk.inj h; omega
  · rw [if_neg h1, if_pos h2] at h
    have := Prod.mk.inj h; omega
  · rw [if_neg h1, if_neg h2] at h; exact (Prod.mk.inj h).1
theorem m_h_ok {lw : Nat} {kd : Nat → Nat → Bool} {s n : Nat} (hs : s < n) : ∀ (f last : Nat) (i : Bool) (rest : Nat) (b : Bool) (E : List (Nat × Nat)), last < n → last ≠ s → rest.testBit last = false → rest.testBit s = false → (∀ x, rest.testBit x = true → x < n) → m_h lw kd s f last i rest b E → E.Nodup ∧ (∀ e ∈ E, e.1 < e.2 ∧ e.2 < n) ∧ E.length = f + 1 ∧ ∀ e ∈ E, m_V s last rest e.1 ∧ m_V s last rest e.2 := by
  intro f
  induction f with
  | zero =>
    rintro last i rest b E hl hls hr1 hr2 hn ⟨_, _, rfl⟩
    refine ⟨by simp, ?_, rfl, ?_⟩
    · intro e he
      rw [List.mem_singleton.mp he]
      exact w_e_lt hls hl hs
    · intro e he
      rw [List.mem_singleton.mp he]
      refine ⟨?_, ?_⟩
      · rcases w_e_fst last s with q | q
        · exact Or.inl q
        · exact Or.inr (Or.inr q)
      · rcases w_e_snd last s with q | q
        · exact Or.inl q
        · exact Or.inr (Or.inr q)
  | succ f ih =>
    rintro last i rest b E hl hls hr1 hr2 hn ⟨h, E', h1, h2, h3, rfl⟩
    have hls' : h ≠ last := by rintro rfl; rw [h1] at hr1; cases hr1
    have hss : h ≠ s := by rintro rfl; rw [h1] at hr2; cases hr2
    obtain ⟨a1, a2, a3, a4⟩ := ih h (kd last h) (w_rm rest h) b E' (hn h h1) hss (by rw [w_rm_bit]; simp) (by rw [w_rm_bit, hr2]; rfl) (fun x hx => by rw [w_rm_bit, Bool.and_eq_true] at hx; exact hn x hx.1) h3
    have hV : ∀ x, m_V s h (w_rm rest h) x → m_V s last rest x ∧ x ≠ last := by
      rintro x (q | q | q)
      · exact ⟨Or.inr (Or.inl (by rw [q]; exact h1)), by rw [q]; exact hls'⟩
      · rw [w_rm_bit, Bool.and_eq_true] at q
        exact ⟨Or.inr (Or.inl q.1), by rintro rfl; rw [q.1] at hr1; cases hr1⟩
      · exact ⟨Or.inr (Or.inr q), by rw [q]; exact fun e => hls e.symm⟩
    refine ⟨List.nodup_cons.mpr ⟨?_, a1⟩, ?_, by rw [List.length_cons, a3], ?_⟩
    · intro hm
      have := a4 _ hm
      rcases w_e_in last h with q | q
      · exact (hV _ this.1).2 q
      · exact (hV _ this.2).2 q
    · intro e he
      rcases List.mem_cons.mp he with rfl | he
      · exact w_e_lt (fun q => hls' q.symm) hl (hn h h1)
      · exact a2 e he
    · intro e he
      rcases List.mem_cons.mp he with rfl | he
      · refine ⟨?_, ?_⟩
        · rcases w_e_fst last h with q | q
          · exact Or.inl q
          · exact Or.inr (Or.inl (by rw [q]; exact h1))
        · rcases w_e_snd last h with q | q
          · exact Or.inl q
          · exact Or.inr (Or.inl (by rw [q]; exact h1))
      · exact ⟨(hV _ (a4 e he).1).1, (hV _ (a4 e he).2).1⟩
/-- rounds from a hole on -/
def m_rd (lw : Nat) (kd : Nat → Nat → Bool) (s f rest : Nat) (E : List (Nat × Nat)) : Prop := ∃ h E', rest.testBit h = true ∧ m_h lw kd s f h (kd s h) (w_rm rest h) (kd s h) E' ∧ E = w_e s h :: E'
theorem m_rd_ok {lw : Nat} {kd : Nat → Nat → Bool} {s n f rest : Nat} {E : List (Nat × Nat)} (hs : s < n) (hf : 1 ≤ f) (hr2 : rest.testBit s = false) (hn : ∀ x, rest.testBit x = true → x < n) (h : m_rd lw kd s f rest E) : E.Nodup ∧ (∀ e ∈ E, e.1 < e.2 ∧ e.2 < n) ∧ E.length = f + 2 := by
  obtain ⟨h, E', h1, h3, rfl⟩ := h
  have hss : h ≠ s := by rintro rfl; rw [h1] at hr2; cases hr2
  have hh := m_h_ok hs f h (kd s h) (w_rm rest h) (kd s h) E' (hn h h1) hss (by rw [w_rm_bit]; simp) (by rw [w_rm_bit, hr2]; rfl) (fun x hx => by rw [w_rm_bit, Bool.and_eq_true] at hx; exact hn x hx.1) h3
  obtain ⟨a1, a2, a3, a4⟩ := hh
  refine ⟨List.nodup_cons.mpr ⟨?_, a1⟩, ?_, by rw [List.length_cons, a3]⟩
  · intro hm
    obtain ⟨f, rfl⟩ : ∃ g, f = g + 1 := ⟨f - 1, by omega⟩
    obtain ⟨u, E2, g1, g2, g3, rfl⟩ := h3
    rw [w_rm_bit, Bool.and_eq_true] at g1
    have gu : h ≠ u := fun e => by
      have := g1.2
      rw [e] at this; simp at this
    have gs : u ≠ s := by rintro rfl; rw [g1.1] at hr2; cases hr2
    rcases List.mem_cons.mp hm with q | q
    · rw [w_e_comm s h] at q
      exact gs (w_e_inj q).symm
    · have h2 := m_h_ok hs f u (kd h u) (w_rm (w_rm rest h) u) (kd s h) E2 (hn u g1.1) gs (by rw [w_rm_bit]; simp) (by rw [w_rm_bit, w_rm_bit, hr2]; rfl) (fun x hx => by rw [w_rm_bit, w_rm_bit, Bool.and_eq_true, Bool.and_eq_true] at hx; exact hn x hx.1.1) g3
      have hv : ∀ x, m_V s u (w_rm (w_rm rest h) u) x → x ≠ h := by
        rintro x (q | q | q)
        · rw [q]; exact fun e => gu e.symm
        · rw [w_rm_bit, w_rm_bit, Bool.and_eq_true, Bool.and_eq_true] at q
          have := q.1.2
          intro e; rw [e] at this; simp at this
        · rw [q]; exact fun e => hss e.symm
      have := h2.2.2.2 _ q
      rcases w_e_in h s with r | r
      · rw [w_e_comm s h] at this; exact hv _ this.1 r
      · rw [w_e_comm s h] at this; exact hv _ this.2 r
  · intro e he
    rcases List.mem_cons.mp he with rfl | he
    · exact w_e_lt (fun q => hss q.symm) hs (hn h h1)
    · exact a2 e he
/-! what is least: v is the least number of some, or there are none -/
def m_is (v : Int) (P : Int → Prop) : Prop := (v = m_F ∧ ∀ x, ¬ P x) ∨ (P v ∧ v < m_F ∧ ∀ x, P x → v ≤ x)
theorem m_is_le {v : Int} {P : Int → Prop} (h : m_is v P) {x : Int} (hx : P x) : v ≤ x := by
  rcases h with ⟨_, h⟩ | ⟨_, _, h⟩
  · exact absurd hx (h x)
  · exact h x hx
theorem m_is_none {P : Int → Prop} (h : ∀ x, ¬ P x) : m_is m_F P := Or.inl ⟨rfl, h⟩
theorem m_is_congr {v : Int} {P Q : Int → Prop} (h : m_is v P) (e : ∀ x, P x ↔ Q x) : m_is v Q := by
  rcases h with ⟨h1, h2⟩ | ⟨h1, h2, h3⟩
  · exact Or.inl ⟨h1, fun x hx => h2 x ((e x).mpr hx)⟩
  · exact Or.inr ⟨(e v).mp h1, h2, fun x hx => h3 x ((e x).mpr hx)⟩
theorem m_is_or {v w : Int} {P Q : Int → Prop} (h : m_is v P) (g : m_is w Q) : m_is (if w < v then w else v) (fun x => P x ∨ Q x) := by
  rcases h with ⟨h1, h2⟩ | ⟨h1, h2, h3⟩ <;> rcases g with ⟨g1, g2⟩ | ⟨g1, g2, g3⟩
  · rw [if_neg (by omega)]
    exact Or.inl ⟨h1, fun x hx => hx.elim (h2 x) (g2 x)⟩
  · rw [if_pos (by omega)]
    exact Or.inr ⟨Or.inr g1, g2, fun x hx => hx.elim (fun q => absurd q (h2 x)) (g3 x)⟩
  · rw [if_neg (by omega)]
    exact Or.inr ⟨Or.inl h1, h2, fun x hx => hx.elim (h3 x) (fun q => absurd q (g2 x))⟩
  · by_cases c : w < v
    · rw [if_pos c]
      exact Or.inr ⟨Or.inr g1, g2, fun x hx => hx.elim (fun q => by have := h3 x q; omega) (g3 x)⟩
    · rw [if_neg c]
      exact Or.inr ⟨Or.inl h1, h2, fun x hx => hx.elim (h3 x) (fun q => by have := g3 x q; omega)⟩
theorem m_is_uni {v w : Int} {P : Int → Prop} (h : m_is v P) (g : m_is w P) : v = w := by
  rcases h with ⟨h1, h2⟩ | ⟨h1, h2, h3⟩ <;> rcases g with ⟨g1, g2⟩ | ⟨g1, g2, g3⟩
  · rw [h1, g1]
  · exact absurd g1 (h2 w)
  · exact absurd h1 (g2 v)
  · have := h3 w g1
    have := g3 v h1
    omega
theorem m_is_F {v : Int} {P : Int → Prop} (h : m_is v P) : v = m_F ↔ ∀ x, ¬ P x := by
  rcases h with ⟨h1, h2⟩ | ⟨h1, h2, h3⟩
  · exact ⟨fun _ => h2, fun _ => h1⟩
  · exact ⟨fun q => by omega, fun q => absurd h1 (q v)⟩
theorem m_is_mem {v : Int} {P : Int → Prop} (h : m_is v P) (hn : v ≠ m_F) : P v := by
  rcases h with ⟨h1, h2⟩ | ⟨h1, h2, h3⟩
  · exact absurd h1 hn
  · exact h1
