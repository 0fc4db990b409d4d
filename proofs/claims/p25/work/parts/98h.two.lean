/-! ===== TWO OBJECTS IN ONE MEMORY: each in a memory of its own, seen from there ===== -/
def vw (H : AH) (a : Nat) (h : AH) (μ : Nat → Nat) (A : QA) : Prop := rH μ h H ∧ (1 < h.1.length ∧ μ 1 = a) ∧ μ 0 = 0 ∧ cI h A ∧ xE h ∧ allwf A
def tw (H : AH) (a b : Nat) (A B : QA) : Prop := am_kd H 0 = 9 ∧ ∃ h g μ ν, vw H a h μ A ∧ vw H b g ν B ∧ ∀ x y, x < h.1.length → y < g.1.length → μ x = ν y → μ x = 0
section two
variable {H : AH} {a b : Nat} {A B A' : QA}
theorem tw.swap (T : tw H a b A B) : tw H b a B A := by
  obtain ⟨k, h, g, μ, ν, V, W, d⟩ := T
  exact ⟨k, g, h, ν, μ, W, V, fun x y hx hy e => by rw [e]; exact d y x hy hx e.symm⟩
theorem rv_ints {μ : Nat → Nat} : ∀ {ls : List Value}, (∀ v ∈ ls, (∃ x, v = .int x) ∨ v = am_ph) → ls.map (rv μ) = ls
  | [], _ => rfl
  | v :: r, h => by
    rw [List.map_cons, rv_ints (fun w hw => h w (List.mem_cons_of_mem _ hw))]
    rcases h v List.mem_cons_self with ⟨x, rfl⟩ | rfl <;> rfl
/-- A CALL of the one: the other stays as it was -/
theorem tw.call (T : tw H a b A B) {LP : List (Nat × Nat) → Prop} {mi : Nat} {ls : List Value} {v : Int32} (hls : ∀ v ∈ ls, (∃ x, v = .int x) ∨ v = am_ph)
    (hc : ∀ h, cI h A → xE h → allwf A → ∃ h1, am_ev mi 0 (.ref 1 :: ls) [] h = some (some (.int v), h1) ∧ cI h1 A' ∧ xE h1 ∧ ∃ l, h1.1 = h.1 ++ l ∧ LP l) (W' : allwf A') :
    ∃ H1, am_ev mi 0 (.ref a :: ls) [] H = some (some (.int v), H1) ∧ tw H1 a b A' B ∧ am_I H1 0 = am_I H 0 ∧ ∃ l, H1.1 = H.1 ++ l ∧ LP l := by
  obtain ⟨k9, h, g, μ, ν, ⟨V1, ⟨V2l, V2⟩, V3, V4, V5, V6⟩, ⟨W1, ⟨W2l, W2⟩, W3, W4, W5, W6⟩, d⟩ := T
  obtain ⟨h1, e1, I1, X1, l, el, hl⟩ := hc h V4 V5 V6
  have hrl : rl h.1.length (.ref 1 :: ls) := rl_cons (rok_r V2l) (fun w hw => by
    rcases hls w hw with ⟨x, rfl⟩ | rfl
    · exact rok_i
    · exact rok_p)
  obtain ⟨H1, e2, s1, ⟨l', el', eL⟩, s3⟩ := r_ev V1 hrl e1
  have hll : l' = l := List.append_cancel_left (el'.symm.trans el)
  rw [hll] at eL
  have k0 : 0 < H.1.length := by
    rcases Nat.eq_zero_or_pos H.1.length with z | z
    · unfold am_kd at k9
      rw [List.getD_eq_getElem?_getD, List.getElem?_eq_none (by omega)] at k9
      exact absurd k9 (by decide)
    · exact z
  have hg : ∀ x, x < H.1.length → H1.1.getD x (99, 0) = H.1.getD x (99, 0) := fun x hx => by
    rw [eL, List.getD_eq_getElem?_getD, List.getElem?_append_left hx, List.getD_eq_getElem?_getD]
  have k9' : am_kd H1 0 = 9 := by
    unfold am_kd
    rw [hg 0 k0]
    exact k9
  have lH : H1.1.length = H.1.length + l.length := by rw [eL, List.length_append]
  have lh : h1.1.length = h.1.length + l.length := by rw [el, List.length_append]
  have z0 := s3 0 k0 (Or.inr k9)
  rw [List.map_cons, rv_ints hls, show rv μ (.ref 1) = .ref a by show Value.ref (μ 1) = _; rw [V2]] at e2
  have hν : ∀ y, y < g.1.length → (fun y => if y < g.1.length then ν y else H1.1.length + (y - g.1.length)) y = ν y := fun y hy => if_pos hy
  have same : ∀ y, y < g.1.length → am_I H1 (ν y) = am_I H (ν y) ∧ am_J H1 (ν y) = am_J H (ν y) ∧ am_R H1 (ν y) = am_R H (ν y) := fun y hy => by
    by_cases e0 : ν y = 0
    · rw [e0]; exact z0
    · refine s3 (ν y) (W1.2.1 y hy) (Or.inl (fun x hx e => ?_))
      exact e0 (e.trans (d x y hx hy e.symm))
  refine ⟨H1, e2, ⟨k9', h1, g, μ, fun y => if y < g.1.length then ν y else H1.1.length + (y - g.1.length), ⟨s1, ⟨by omega, V2⟩, V3, I1, X1, W'⟩, ⟨⟨fun i => ?_, fun y hy => ?_, fun x y hx hy e => ?_, fun y hy => ?_, fun y hy => ?_, W1.2.2.2.2.2⟩, ⟨W2l, ?_⟩, ?_, W4, W5, W6⟩, fun x y hx hy e => ?_⟩, z0.1, l, eL, hl⟩
  · show (if g.1.length + i < g.1.length then _ else H1.1.length + (g.1.length + i - g.1.length)) = _
    rw [if_neg (by omega)]
    omega
  · rw [hν y hy]
    have := W1.2.1 y hy
    omega
  · rw [hν x hx, hν y hy] at e
    exact W1.2.2.1 x y hx hy e
  · rw [hν y hy, hg _ (W1.2.1 y hy)]
    exact W1.2.2.2.1 y hy
  · rw [hν y hy]
    have k := W1.2.2.2.2.1 y hy
    have k2 := same y hy
    refine ⟨k2.1.trans k.1, k2.2.1.trans k.2.1, (k2.2.2.trans k.2.2).trans ?_⟩
    funext j
    cases e : am_R g y j with
    | none => rfl
    | some c => exact congrArg some (hν c (W1.2.2.2.2.2 y j c hy e)).symm
  · show (if 1 < g.1.length then ν 1 else _) = b
    rw [if_pos W2l]
    exact W2
  · show (if 0 < g.1.length then ν 0 else _) = 0
    rw [if_pos (by omega)]
    exact W3
  · rw [hν y hy] at e
    by_cases hx2 : x < h.1.length
    · exact d x y hx2 hy e
    · have q := V1.1 (x - h.1.length)
      rw [show h.1.length + (x - h.1.length) = x by omega] at q
      have := W1.2.1 y hy
      omega
end two
