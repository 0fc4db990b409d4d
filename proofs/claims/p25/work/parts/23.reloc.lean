/-! ===== THE SMALL MACHINE IN ANOTHER PLACE: what runs over a memory h runs alike over a memory H that holds h's cells at the places μ; what else H holds stays as it was ===== -/
def rv (μ : Nat → Nat) : Value → Value
  | .ref a => .ref (μ a)
  | v => v
def rok (n : Nat) (v : Value) : Prop := ∀ a, v = .ref a → a < n
def rl (n : Nat) (l : List Value) : Prop := ∀ v ∈ l, rok n v
/-- h's cells lie in H at μ; cells of kind 9 are read alone and may lie at one place -/
def rH (μ : Nat → Nat) (h H : AH) : Prop :=
  (∀ i, μ (h.1.length + i) = H.1.length + i) ∧ (∀ a, a < h.1.length → μ a < H.1.length) ∧
  (∀ a b, a < h.1.length → b < h.1.length → μ a = μ b → a = b ∨ am_kd h a = 9) ∧
  (∀ a, a < h.1.length → H.1.getD (μ a) (99, 0) = h.1.getD a (99, 0)) ∧
  (∀ a, a < h.1.length → am_I H (μ a) = am_I h a ∧ am_J H (μ a) = am_J h a ∧ am_R H (μ a) = fun k => (am_R h a k).map μ) ∧
  (∀ a k b, a < h.1.length → am_R h a k = some b → b < h.1.length)
/-- since h0, H0: h and H have grown alike, and nothing of H0 has changed but h0's cells -/
def rS (μ : Nat → Nat) (h0 H0 h H : AH) : Prop := rH μ h H ∧ (∃ l, h.1 = h0.1 ++ l ∧ H.1 = H0.1 ++ l) ∧ ∀ b, b < H0.1.length → (∀ a, a < h0.1.length → b ≠ μ a) ∨ am_kd H0 b = 9 → am_I H b = am_I H0 b ∧ am_J H b = am_J H0 b ∧ am_R H b = am_R H0 b
section rel
variable {μ : Nat → Nat} {h H h0 H0 : AH}
theorem rH.kd (r : rH μ h H) (a : Nat) : am_kd H (μ a) = am_kd h a := by
  unfold am_kd
  by_cases ha : a < h.1.length
  · rw [r.2.2.2.1 a ha]
  · have := r.1 (a - h.1.length)
    rw [show h.1.length + (a - h.1.length) = a by omega] at this
    rw [this, List.getD_eq_getElem?_getD, List.getD_eq_getElem?_getD, List.getElem?_eq_none (by omega), List.getElem?_eq_none (by omega)]
theorem rH.ln (r : rH μ h H) (a : Nat) : am_ln H (μ a) = am_ln h a := by
  unfold am_ln
  by_cases ha : a < h.1.length
  · rw [r.2.2.2.1 a ha]
  · have := r.1 (a - h.1.length)
    rw [show h.1.length + (a - h.1.length) = a by omega] at this
    rw [this, List.getD_eq_getElem?_getD, List.getD_eq_getElem?_getD, List.getElem?_eq_none (by omega), List.getElem?_eq_none (by omega)]
theorem rH.end_ (r : rH μ h H) : μ h.1.length = H.1.length := r.1 0
theorem rH.ne (r : rH μ h H) {a b : Nat} (ha : a < h.1.length) (hb : b < h.1.length) (h9 : am_kd h a ≠ 9) (e : b ≠ a) : μ b ≠ μ a := fun z => by
  rcases r.2.2.1 a b ha hb z.symm with z | z
  · exact e z.symm
  · exact h9 z
theorem rH.rI (r : rH μ h H) {a : Nat} (ha : a < h.1.length) (h9 : am_kd h a ≠ 9) (f : Nat → Int32) : rH μ (am_rI h a f) (am_rI H (μ a) f) := by
  refine ⟨r.1, r.2.1, r.2.2.1, r.2.2.2.1, fun b hb => ⟨?_, (r.2.2.2.2.1 b hb).2⟩, r.2.2.2.2.2⟩
  show am_ud (am_I H) (μ a) f (μ b) = am_ud (am_I h) a f b
  unfold am_ud
  by_cases e : b = a
  · rw [if_pos (by rw [e]), if_pos e]
  · rw [if_neg (r.ne ha hb h9 e), if_neg e]
    exact (r.2.2.2.2.1 b hb).1
theorem rH.rJ (r : rH μ h H) {a : Nat} (ha : a < h.1.length) (h9 : am_kd h a ≠ 9) (f : Nat → Int64) : rH μ (am_rJ h a f) (am_rJ H (μ a) f) := by
  refine ⟨r.1, r.2.1, r.2.2.1, r.2.2.2.1, fun b hb => ⟨(r.2.2.2.2.1 b hb).1, ?_, (r.2.2.2.2.1 b hb).2.2⟩, r.2.2.2.2.2⟩
  show am_ud (am_J H) (μ a) f (μ b) = am_ud (am_J h) a f b
  unfold am_ud
  by_cases e : b = a
  · rw [if_pos (by rw [e]), if_pos e]
  · rw [if_neg (r.ne ha hb h9 e), if_neg e]
    exact (r.2.2.2.2.1 b hb).2.1
theorem rH.sI (r : rH μ h H) {a : Nat} (ha : a < h.1.length) (h9 : am_kd h a ≠ 9) (k : Nat) (v : Int32) : rH μ (am_sI h a k v) (am_sI H (μ a) k v) := by
  unfold am_sI
  rw [(r.2.2.2.2.1 a ha).1]
  exact r.rI ha h9 _
theorem rH.sJ (r : rH μ h H) {a : Nat} (ha : a < h.1.length) (h9 : am_kd h a ≠ 9) (k : Nat) (v : Int64) : rH μ (am_sJ h a k v) (am_sJ H (μ a) k v) := by
  unfold am_sJ
  rw [(r.2.2.2.2.1 a ha).2.1]
  exact r.rJ ha h9 _
theorem rH.sR (r : rH μ h H) {a : Nat} (ha : a < h.1.length) (h9 : am_kd h a ≠ 9) (k : Nat) (v : Option Nat) (hv : ∀ b, v = some b → b < h.1.length) : rH μ (am_sR h a k v) (am_sR H (μ a) k (v.map μ)) := by
  refine ⟨r.1, r.2.1, r.2.2.1, r.2.2.2.1, fun b hb => ⟨(r.2.2.2.2.1 b hb).1, (r.2.2.2.2.1 b hb).2.1, ?_⟩, fun b j c hb e => ?_⟩
  · show am_ud (am_R H) (μ a) (am_ud (am_R H (μ a)) k (v.map μ)) (μ b) = fun j => (am_ud (am_R h) a (am_ud (am_R h a) k v) b j).map μ
    unfold am_ud
    by_cases e : b = a
    · rw [if_pos (by rw [e])]
      funext j
      rw [if_pos e, (r.2.2.2.2.1 a ha).2.2]
      by_cases ej : j = k
      · rw [if_pos ej, if_pos ej]
      · rw [if_neg ej, if_neg ej]
    · rw [if_neg (r.ne ha hb h9 e), (r.2.2.2.2.1 b hb).2.2]
      funext j
      rw [if_neg e]
  · have e : am_ud (am_R h) a (am_ud (am_R h a) k v) b j = some c := e
    unfold am_ud at e
    by_cases ea : b = a
    · rw [if_pos ea] at e
      by_cases ej : j = k
      · rw [if_pos ej] at e; exact hv c e
      · rw [if_neg ej] at e; exact r.2.2.2.2.2 a j c ha e
    · rw [if_neg ea] at e; exact r.2.2.2.2.2 b j c hb e
theorem rH.nw (r : rH μ h H) (k n : Nat) : rH μ (am_nw h k n) (am_nw H k n) := by
  have hl : (am_nw h k n).1.length = h.1.length + 1 := by show (h.1 ++ [(k, n)]).length = _; simp
  have hL : (am_nw H k n).1.length = H.1.length + 1 := by show (H.1 ++ [(k, n)]).length = _; simp
  have gl : ∀ a, a < h.1.length → (am_nw h k n).1.getD a (99, 0) = h.1.getD a (99, 0) := fun a ha => by
    show (h.1 ++ [(k, n)]).getD a (99, 0) = _
    rw [List.getD_eq_getElem?_getD, List.getElem?_append_left ha, List.getD_eq_getElem?_getD]
  have gL : ∀ a, a < H.1.length → (am_nw H k n).1.getD a (99, 0) = H.1.getD a (99, 0) := fun a ha => by
    show (H.1 ++ [(k, n)]).getD a (99, 0) = _
    rw [List.getD_eq_getElem?_getD, List.getElem?_append_left ha, List.getD_eq_getElem?_getD]
  have gm : (am_nw h k n).1.getD h.1.length (99, 0) = (k, n) := by
    show (h.1 ++ [(k, n)]).getD h.1.length (99, 0) = _
    rw [List.getD_eq_getElem?_getD, List.getElem?_append_right (Nat.le_refl _)]
    simp
  have gM : (am_nw H k n).1.getD H.1.length (99, 0) = (k, n) := by
    show (H.1 ++ [(k, n)]).getD H.1.length (99, 0) = _
    rw [List.getD_eq_getElem?_getD, List.getElem?_append_right (Nat.le_refl _)]
    simp
  refine ⟨fun i => ?_, fun a ha => ?_, fun a b ha hb e => ?_, fun a ha => ?_, fun a ha => ?_, fun a j b ha e => ?_⟩
  · rw [hl, hL, show h.1.length + 1 + i = h.1.length + (1 + i) by omega, r.1]; omega
  · rw [hl] at ha
    rw [hL]
    by_cases e : a = h.1.length
    · rw [e, r.end_]; omega
    · have := r.2.1 a (by omega); omega
  · rw [hl] at ha hb
    by_cases ea : a = h.1.length
    · by_cases eb : b = h.1.length
      · left; omega
      · rw [ea, r.end_] at e; have := r.2.1 b (by omega); omega
    · by_cases eb : b = h.1.length
      · rw [eb, r.end_] at e; have := r.2.1 a (by omega); omega
      · rcases r.2.2.1 a b (by omega) (by omega) e with z | z
        · exact Or.inl z
        · right
          unfold am_kd
          rw [gl a (by omega)]
          exact z
  · rw [hl] at ha
    by_cases e : a = h.1.length
    · rw [e, r.end_, gm, gM]
    · rw [gl a (by omega), gL _ (r.2.1 a (by omega)), r.2.2.2.1 a (by omega)]
  · rw [hl] at ha
    show am_ud (am_I H) H.1.length (fun _ => 0) (μ a) = am_ud (am_I h) h.1.length (fun _ => 0) a ∧ am_ud (am_J H) H.1.length (fun _ => 0) (μ a) = am_ud (am_J h) h.1.length (fun _ => 0) a ∧ am_ud (am_R H) H.1.length (fun _ => none) (μ a) = fun j => (am_ud (am_R h) h.1.length (fun _ => none) a j).map μ
    unfold am_ud
    by_cases e : a = h.1.length
    · rw [e, r.end_, if_pos rfl, if_pos rfl, if_pos rfl, if_pos rfl, if_pos rfl, if_pos rfl]
      exact ⟨rfl, rfl, rfl⟩
    · have := r.2.1 a (by omega)
      rw [if_neg (by omega), if_neg (by omega), if_neg (by omega), if_neg (by omega), if_neg (by omega), if_neg (by omega)]
      exact r.2.2.2.2.1 a (by omega)
  · rw [hl] at ha ⊢
    have e : am_ud (am_R h) h.1.length (fun _ => none) a j = some b := e
    unfold am_ud at e
    by_cases ea : a = h.1.length
    · rw [if_pos ea] at e; cases e
    · rw [if_neg ea] at e
      have := r.2.2.2.2.2 a j b (by omega) e
      omega
/-- where a cell that is written lies -/
theorem rS.out (q : ∀ i, μ (h0.1.length + i) = H0.1.length + i) (s : rS μ h0 H0 h H) {a b : Nat} (hb : b < H0.1.length) (h9 : am_kd h a ≠ 9) (hn : (∀ a, a < h0.1.length → b ≠ μ a) ∨ am_kd H0 b = 9) : b ≠ μ a := by
  rcases hn with hn | hn
  · by_cases ha : a < h0.1.length
    · exact hn a ha
    · have := q (a - h0.1.length)
      rw [show h0.1.length + (a - h0.1.length) = a by omega] at this
      omega
  · intro e
    obtain ⟨r, ⟨l, -, e2⟩, -⟩ := s
    have k := r.kd a
    rw [← e] at k
    apply h9
    rw [← k, ← hn]
    unfold am_kd
    rw [e2, List.getD_eq_getElem?_getD, List.getElem?_append_left hb, List.getD_eq_getElem?_getD]
theorem rS.mk (q : ∀ i, μ (h0.1.length + i) = H0.1.length + i) (s : rS μ h0 H0 h H) {h1 H1 : AH} (r : rH μ h1 H1) (e1 : h1.1 = h.1) (e2 : H1.1 = H.1) {a : Nat} (h9 : am_kd h a ≠ 9) (f : ∀ b, b ≠ μ a → am_I H1 b = am_I H b ∧ am_J H1 b = am_J H b ∧ am_R H1 b = am_R H b) : rS μ h0 H0 h1 H1 := by
  refine ⟨r, by rw [e1, e2]; exact s.2.1, fun b hb hn => ?_⟩
  have k := f b (s.out q hb h9 hn)
  have k2 := s.2.2 b hb hn
  exact ⟨k.1.trans k2.1, k.2.1.trans k2.2.1, k.2.2.trans k2.2.2⟩
theorem rS.sI (q : ∀ i, μ (h0.1.length + i) = H0.1.length + i) (s : rS μ h0 H0 h H) {a : Nat} (ha : a < h.1.length) (h9 : am_kd h a ≠ 9) (k : Nat) (v : Int32) : rS μ h0 H0 (am_sI h a k v) (am_sI H (μ a) k v) :=
  s.mk q (s.1.sI ha h9 k v) rfl rfl (a := a) h9 (fun b hb => ⟨by show am_ud (am_I H) (μ a) _ b = _; unfold am_ud; rw [if_neg hb], rfl, rfl⟩)
theorem rS.rI (q : ∀ i, μ (h0.1.length + i) = H0.1.length + i) (s : rS μ h0 H0 h H) {a : Nat} (ha : a < h.1.length) (h9 : am_kd h a ≠ 9) (f : Nat → Int32) : rS μ h0 H0 (am_rI h a f) (am_rI H (μ a) f) :=
  s.mk q (s.1.rI ha h9 f) rfl rfl (a := a) h9 (fun b hb => ⟨by show am_ud (am_I H) (μ a) _ b = _; unfold am_ud; rw [if_neg hb], rfl, rfl⟩)
theorem rS.sJ (q : ∀ i, μ (h0.1.length + i) = H0.1.length + i) (s : rS μ h0 H0 h H) {a : Nat} (ha : a < h.1.length) (h9 : am_kd h a ≠ 9) (k : Nat) (v : Int64) : rS μ h0 H0 (am_sJ h a k v) (am_sJ H (μ a) k v) :=
  s.mk q (s.1.sJ ha h9 k v) rfl rfl (a := a) h9 (fun b hb => ⟨rfl, by show am_ud (am_J H) (μ a) _ b = _; unfold am_ud; rw [if_neg hb], rfl⟩)
theorem rS.sR (q : ∀ i, μ (h0.1.length + i) = H0.1.length + i) (s : rS μ h0 H0 h H) {a : Nat} (ha : a < h.1.length) (h9 : am_kd h a ≠ 9) (k : Nat) (v : Option Nat) (hv : ∀ b, v = some b → b < h.1.length) : rS μ h0 H0 (am_sR h a k v) (am_sR H (μ a) k (v.map μ)) :=
  s.mk q (s.1.sR ha h9 k v hv) rfl rfl (a := a) h9 (fun b hb => ⟨rfl, rfl, by show am_ud (am_R H) (μ a) _ b = _; unfold am_ud; rw [if_neg hb]⟩)
theorem rS.nw (s : rS μ h0 H0 h H) (k n : Nat) : rS μ h0 H0 (am_nw h k n) (am_nw H k n) := by
  obtain ⟨r, ⟨l, e1, e2⟩, f⟩ := s
  refine ⟨r.nw k n, ⟨l ++ [(k, n)], ?_, ?_⟩, fun b hb hn => ?_⟩
  · show h.1 ++ _ = _; rw [e1, List.append_assoc]
  · show H.1 ++ _ = _; rw [e2, List.append_assoc]
  · have hl : b < H.1.length := by rw [e2, List.length_append]; omega
    have k2 := f b hb hn
    refine ⟨Eq.trans ?_ k2.1, Eq.trans ?_ k2.2.1, Eq.trans ?_ k2.2.2⟩
    · show am_ud (am_I H) H.1.length _ b = _; unfold am_ud; rw [if_neg (by omega)]
    · show am_ud (am_J H) H.1.length _ b = _; unfold am_ud; rw [if_neg (by omega)]
    · show am_ud (am_R H) H.1.length _ b = _; unfold am_ud; rw [if_neg (by omega)]
end rel
section vals
variable {μ : Nat → Nat} {n : Nat} {st ls : List Value}
theorem rok_i {x : Int32} : rok n (.int x) := fun a e => by cases e
theorem rok_l {x : Int64} : rok n (.long x) := fun a e => by cases e
theorem rok_n : rok n .null := fun a e => by cases e
theorem rok_p : rok n am_ph := fun a e => by cases e
theorem rok_r {a : Nat} (h : a < n) : rok n (.ref a) := fun b e => by cases e; exact h
theorem rok_o {v : Option Nat} (h : ∀ b, v = some b → b < n) : rok n (am_ob v) := by
  cases v with
  | none => exact rok_n
  | some b => exact rok_r (h b rfl)
theorem rok.m {m : Nat} {v : Value} (h : rok n v) (hm : n ≤ m) : rok m v := fun a e => Nat.lt_of_lt_of_le (h a e) hm
theorem rl_nil : rl n [] := fun v h => by cases h
theorem rl_cons {v : Value} (h : rok n v) (t : rl n st) : rl n (v :: st) := fun w hw => by
  rcases List.mem_cons.mp hw with rfl | hw
  · exact h
  · exact t w hw
theorem rl.hd {v : Value} (h : rl n (v :: st)) : rok n v := h v List.mem_cons_self
theorem rl.tl {v : Value} (h : rl n (v :: st)) : rl n st := fun w hw => h w (List.mem_cons_of_mem _ hw)
theorem rl.m {m : Nat} (h : rl n st) (hm : n ≤ m) : rl m st := fun v hv => (h v hv).m hm
theorem rl.app {t : List Value} (h : rl n st) (k : rl n t) : rl n (st ++ t) := fun v hv => (List.mem_append.mp hv).elim (h v) (k v)
theorem rv_cat (v : Value) : (rv μ v).category = v.category := by cases v <;> rfl
theorem rv_half (v : Value) : rv μ (am_half v) = am_half (rv μ v) := by cases v <;> rfl
theorem rok_half {v : Value} (h : rok n v) : rok n (am_half v) := by
  cases v <;> first | exact h | exact rok_p
theorem rv_ob (v : Option Nat) : rv μ (am_ob v) = am_ob (v.map μ) := by cases v <;> rfl
theorem rv_set1 : ∀ (ls : List Value) (k : Nat) (v : Value), (am_set1 ls k v).map (rv μ) = am_set1 (ls.map (rv μ)) k (rv μ v)
  | [], _, _ => rfl
  | _ :: r, 0, v => rfl
  | a :: r, 1, v => by
    show rv μ (am_half a) :: (am_set1 r 0 v).map (rv μ) = am_half (rv μ a) :: am_set1 (r.map (rv μ)) 0 (rv μ v)
    rw [rv_half, rv_set1]
  | a :: r, k + 2, v => by
    show rv μ a :: (am_set1 r (k + 1) v).map (rv μ) = rv μ a :: am_set1 (r.map (rv μ)) (k + 1) (rv μ v)
    rw [rv_set1]
theorem rv_set2 : ∀ (ls : List Value) (k : Nat) (v : Value), (am_set2 ls k v).map (rv μ) = am_set2 (ls.map (rv μ)) k (rv μ v)
  | [], _, _ => rfl
  | _ :: r, 0, v => by
    show rv μ v :: (am_set1 r 0 am_ph).map (rv μ) = rv μ v :: am_set1 (r.map (rv μ)) 0 am_ph
    rw [rv_set1]
    rfl
  | a :: r, 1, v => by
    show rv μ (am_half a) :: (am_set2 r 0 v).map (rv μ) = am_half (rv μ a) :: am_set2 (r.map (rv μ)) 0 (rv μ v)
    rw [rv_half, rv_set2]
  | a :: r, k + 2, v => by
    show rv μ a :: (am_set2 r (k + 1) v).map (rv μ) = rv μ a :: am_set2 (r.map (rv μ)) (k + 1) (rv μ v)
    rw [rv_set2]
theorem rl_set1 : ∀ (ls : List Value) (k : Nat) (v : Value), rl n ls → rok n v → rl n (am_set1 ls k v)
  | [], _, _, h, _ => h
  | _ :: r, 0, v, h, hv => rl_cons hv h.tl
  | a :: r, 1, v, h, hv => rl_cons (rok_half h.hd) (rl_set1 r 0 v h.tl hv)
  | a :: r, k + 2, v, h, hv => rl_cons h.hd (rl_set1 r (k + 1) v h.tl hv)
theorem rl_set2 : ∀ (ls : List Value) (k : Nat) (v : Value), rl n ls → rok n v → rl n (am_set2 ls k v)
  | [], _, _, h, _ => h
  | _ :: r, 0, v, h, hv => rl_cons hv (rl_set1 r 0 am_ph h.tl rok_p)
  | a :: r, 1, v, h, hv => rl_cons (rok_half h.hd) (rl_set2 r 0 v h.tl hv)
  | a :: r, k + 2, v, h, hv => rl_cons h.hd (rl_set2 r (k + 1) v h.tl hv)
theorem rv_pad : ∀ l : List Value, am_pad (l.map (rv μ)) = (am_pad l).map (rv μ)
  | [] => rfl
  | v :: r => by
    cases v with
    | long x => show .long x :: am_ph :: am_pad (r.map (rv μ)) = .long x :: am_ph :: (am_pad r).map (rv μ); rw [rv_pad r]
    | ref a => show .ref (μ a) :: am_pad (r.map (rv μ)) = .ref (μ a) :: (am_pad r).map (rv μ); rw [rv_pad r]
    | _ => simp only [List.map_cons, rv, am_pad, rv_pad r]
theorem rl_pad : ∀ l : List Value, rl n l → rl n (am_pad l)
  | [], h => h
  | v :: r, h => by
    cases v with
    | long x => exact rl_cons rok_l (rl_cons rok_p (rl_pad r h.tl))
    | _ => exact rl_cons h.hd (rl_pad r h.tl)
theorem rv_entry (nL : Nat) (as : List Value) : am_entry nL (as.map (rv μ)) = (am_entry nL as).map (rv μ) := by
  unfold am_entry
  rw [rv_pad, List.map_append, List.length_map, List.map_replicate]
  rfl
theorem rl_entry {nL : Nat} {as : List Value} (h : rl n as) : rl n (am_entry nL as) := (rl_pad as h).app (fun v hv => by
  rw [(List.mem_replicate.mp hv).2]
  exact rok_p)
theorem rv_clr : ∀ (ks : List Nat) (ls : List Value), am_clr ks (ls.map (rv μ)) = (am_clr ks ls).map (rv μ)
  | [], _ => rfl
  | k :: r, ls => by
    show am_clr r ((ls.map (rv μ)).set k am_ph) = (am_clr r (ls.set k am_ph)).map (rv μ)
    rw [← rv_clr r, List.map_set]
    rfl
theorem rl_clr : ∀ (ks : List Nat) (ls : List Value), rl n ls → rl n (am_clr ks ls)
  | [], _, h => h
  | k :: r, ls, h => rl_clr r _ (fun v hv => by
    rcases List.mem_or_eq_of_mem_set hv with z | z
    · exact h v z
    · rw [z]; exact rok_p)
theorem rv_fg : ∀ (l : List (Nat × List Nat)) (pc : Nat) (ls : List Value), am_fg l pc (ls.map (rv μ)) = (am_fg l pc ls).map (rv μ)
  | [], _, _ => rfl
  | q :: r, pc, ls => by
    unfold am_fg
    cases Nat.beq q.1 pc
    · exact rv_fg r pc ls
    · exact rv_clr q.2 ls
theorem rl_fg : ∀ (l : List (Nat × List Nat)) (pc : Nat) (ls : List Value), rl n ls → rl n (am_fg l pc ls)
  | [], _, _, h => h
  | q :: r, pc, ls, h => by
    unfold am_fg
    cases Nat.beq q.1 pc
    · exact rl_fg r pc ls h
    · exact rl_clr q.2 ls h
theorem rv_pop : ∀ (k : Nat) (st acc : List Value), am_pop k (st.map (rv μ)) (acc.map (rv μ)) = (am_pop k st acc).map (fun p => (p.1.map (rv μ), p.2.map (rv μ)))
  | 0, _, _ => rfl
  | k + 1, v :: st, acc => rv_pop k st (v :: acc)
  | _ + 1, [], _ => rfl
theorem rl_pop : ∀ (k : Nat) (st acc : List Value) (p : List Value × List Value), am_pop k st acc = some p → rl n st → rl n acc → rl n p.1 ∧ rl n p.2
  | 0, st, acc, p, e, h, k => by cases e; exact ⟨k, h⟩
  | k + 1, v :: st, acc, p, e, h, h2 => rl_pop k st (v :: acc) p e h.tl (rl_cons h.hd h2)
  | _ + 1, [], _, p, e, _, _ => by cases e
theorem rv_w8 (l : List Value) : am_w8 (l.map (rv μ)) = am_w8 l := by
  unfold am_w8
  rw [List.map_map]
  congr 1
  exact List.map_congr_left (fun v _ => rv_cat v)
theorem rl_lk {k : Nat} {v : Value} (h : rl n ls) (e : ls[k]? = some v) : rok n v := h v (List.mem_of_getElem? e)
end vals
section conts
variable {α β : Type} {μ : Nat → Nat} {n : Nat} {Q : AR → AR → Prop} {no' : AR} {st ls : List Value}

theorem r_i1 {f f' : Int32 → List Value → AR} (h0 : ∀ b, Q none b) (hs : rl n st) (hf : ∀ (x : Int32) (r : List Value), rl n r → Q (f x r) (f' x (r.map (rv μ)))) : Q (am_i1 none f st) (am_i1 none f' (st.map (rv μ))) := by
  unfold am_i1
  split
  · exact hf _ _ hs.tl
  · exact h0 _
theorem r_i2 {f f' : Int32 → Int32 → List Value → AR} (h0 : ∀ b, Q none b) (hs : rl n st) (hf : ∀ (x y : Int32) (r : List Value), rl n r → Q (f x y r) (f' x y (r.map (rv μ)))) : Q (am_i2 none f st) (am_i2 none f' (st.map (rv μ))) := by
  unfold am_i2
  split
  · exact hf _ _ _ hs.tl.tl
  · exact h0 _
theorem r_l1 {f f' : Int64 → List Value → AR} (h0 : ∀ b, Q none b) (hs : rl n st) (hf : ∀ (x : Int64) (r : List Value), rl n r → Q (f x r) (f' x (r.map (rv μ)))) : Q (am_l1 none f st) (am_l1 none f' (st.map (rv μ))) := by
  unfold am_l1
  split
  · exact hf _ _ hs.tl
  · exact h0 _
theorem r_l2 {f f' : Int64 → Int64 → List Value → AR} (h0 : ∀ b, Q none b) (hs : rl n st) (hf : ∀ (x y : Int64) (r : List Value), rl n r → Q (f x y r) (f' x y (r.map (rv μ)))) : Q (am_l2 none f st) (am_l2 none f' (st.map (rv μ))) := by
  unfold am_l2
  split
  · exact hf _ _ _ hs.tl.tl
  · exact h0 _
theorem r_li {f f' : Int64 → Int32 → List Value → AR} (h0 : ∀ b, Q none b) (hs : rl n st) (hf : ∀ (x : Int64) (y : Int32) (r : List Value), rl n r → Q (f x y r) (f' x y (r.map (rv μ)))) : Q (am_li none f st) (am_li none f' (st.map (rv μ))) := by
  unfold am_li
  split
  · exact hf _ _ _ hs.tl.tl
  · exact h0 _
theorem r_r1 {f f' : Nat → List Value → AR} (h0 : ∀ b, Q none b) (hs : rl n st) (hf : ∀ (a : Nat) (r : List Value), a < n → rl n r → Q (f a r) (f' (μ a) (r.map (rv μ)))) : Q (am_r1 none f st) (am_r1 none f' (st.map (rv μ))) := by
  unfold am_r1
  split
  · exact hf _ _ (hs.hd _ rfl) hs.tl
  · exact h0 _
theorem r_ai {f f' : Nat → Int32 → List Value → AR} (h0 : ∀ b, Q none b) (hs : rl n st) (hf : ∀ (a : Nat) (i : Int32) (r : List Value), a < n → rl n r → Q (f a i r) (f' (μ a) i (r.map (rv μ)))) : Q (am_ai none f st) (am_ai none f' (st.map (rv μ))) := by
  unfold am_ai
  split
  · exact hf _ _ _ (hs.tl.hd _ rfl) hs.tl.tl
  · exact h0 _
theorem r_aii {f f' : Nat → Int32 → Int32 → List Value → AR} (h0 : ∀ b, Q none b) (hs : rl n st) (hf : ∀ (a : Nat) (i x : Int32) (r : List Value), a < n → rl n r → Q (f a i x r) (f' (μ a) i x (r.map (rv μ)))) : Q (am_aii none f st) (am_aii none f' (st.map (rv μ))) := by
  unfold am_aii
  split
  · exact hf _ _ _ _ (hs.tl.tl.hd _ rfl) hs.tl.tl.tl
  · exact h0 _
theorem r_ail {f f' : Nat → Int32 → Int64 → List Value → AR} (h0 : ∀ b, Q none b) (hs : rl n st) (hf : ∀ (a : Nat) (i : Int32) (x : Int64) (r : List Value), a < n → rl n r → Q (f a i x r) (f' (μ a) i x (r.map (rv μ)))) : Q (am_ail none f st) (am_ail none f' (st.map (rv μ))) := by
  unfold am_ail
  split
  · exact hf _ _ _ _ (hs.tl.tl.hd _ rfl) hs.tl.tl.tl
  · exact h0 _
theorem r_ri {f f' : Nat → Int32 → List Value → AR} (h0 : ∀ b, Q none b) (hs : rl n st) (hf : ∀ (a : Nat) (x : Int32) (r : List Value), a < n → rl n r → Q (f a x r) (f' (μ a) x (r.map (rv μ)))) : Q (am_ri none f st) (am_ri none f' (st.map (rv μ))) := by
  unfold am_ri
  split
  · exact hf _ _ _ (hs.tl.hd _ rfl) hs.tl.tl
  · exact h0 _
theorem r_o1 {f f' : Option Nat → List Value → AR} (h0 : ∀ b, Q none b) (hs : rl n st) (hf : ∀ (v : Option Nat) (r : List Value), (∀ b, v = some b → b < n) → rl n r → Q (f v r) (f' (v.map μ) (r.map (rv μ)))) : Q (am_o1 none f st) (am_o1 none f' (st.map (rv μ))) := by
  unfold am_o1
  split
  · exact hf (some _) _ (fun b e => by cases e; exact hs.hd _ rfl) hs.tl
  · exact hf none _ (fun b e => by cases e) hs.tl
  · exact h0 _
theorem r_air {f f' : Nat → Int32 → Option Nat → List Value → AR} (h0 : ∀ b, Q none b) (hs : rl n st) (hf : ∀ (a : Nat) (i : Int32) (v : Option Nat) (r : List Value), a < n → (∀ b, v = some b → b < n) → rl n r → Q (f a i v r) (f' (μ a) i (v.map μ) (r.map (rv μ)))) : Q (am_air none f st) (am_air none f' (st.map (rv μ))) := by
  unfold am_air
  split
  · exact hf _ _ (some _) _ (hs.tl.tl.hd _ rfl) (fun b e => by cases e; exact hs.hd _ rfl) hs.tl.tl.tl
  · exact hf _ _ none _ (hs.tl.tl.hd _ rfl) (fun b e => by cases e) hs.tl.tl.tl
  · exact h0 _
theorem r_rr {f f' : Nat → Option Nat → List Value → AR} (h0 : ∀ b, Q none b) (hs : rl n st) (hf : ∀ (a : Nat) (v : Option Nat) (r : List Value), a < n → (∀ b, v = some b → b < n) → rl n r → Q (f a v r) (f' (μ a) (v.map μ) (r.map (rv μ)))) : Q (am_rr none f st) (am_rr none f' (st.map (rv μ))) := by
  unfold am_rr
  split
  · exact hf _ (some _) _ (hs.tl.hd _ rfl) (fun b e => by cases e; exact hs.hd _ rfl) hs.tl.tl
  · exact hf _ none _ (hs.tl.hd _ rfl) (fun b e => by cases e) hs.tl.tl
  · exact h0 _
theorem r_v1 {f f' : Value → List Value → AR} (h0 : ∀ b, Q none b) (hs : rl n st) (hf : ∀ (v : Value) (r : List Value), rok n v → rl n r → Q (f v r) (f' (rv μ v) (r.map (rv μ)))) : Q (am_v1 none f st) (am_v1 none f' (st.map (rv μ))) := by
  unfold am_v1
  split
  · rename_i v r
    show Q (if v.category = 1 then f v r else none) (if (rv μ v).category = 1 then f' (rv μ v) (r.map (rv μ)) else none)
    rw [rv_cat]
    split
    · exact hf v r hs.hd hs.tl
    · exact h0 _
  · exact h0 _
theorem r_v2 {f f' : Value → Value → List Value → AR} (h0 : ∀ b, Q none b) (hs : rl n st) (hf : ∀ (v w : Value) (r : List Value), rok n v → rok n w → rl n r → Q (f v w r) (f' (rv μ v) (rv μ w) (r.map (rv μ)))) : Q (am_v2 none f st) (am_v2 none f' (st.map (rv μ))) := by
  unfold am_v2
  split
  · rename_i v w r
    show Q (if v.category = 1 ∧ w.category = 1 then f v w r else none) (if (rv μ v).category = 1 ∧ (rv μ w).category = 1 then f' (rv μ v) (rv μ w) (r.map (rv μ)) else none)
    rw [rv_cat, rv_cat]
    split
    · exact hf v w r hs.hd hs.tl.hd hs.tl.tl
    · exact h0 _
  · exact h0 _
theorem r_ldI {f f' : Int32 → AR} {k : Nat} (h0 : ∀ b, Q none b) (hf : ∀ x, Q (f x) (f' x)) : Q (am_ldI none f ls[k]?) (am_ldI none f' (ls.map (rv μ))[k]?) := by
  rw [List.getElem?_map]
  unfold am_ldI
  split
  · rename_i x e
    rw [e]
    exact hf x
  · exact h0 _
theorem r_ldJ {f f' : Int64 → AR} {k : Nat} (h0 : ∀ b, Q none b) (hf : ∀ x, Q (f x) (f' x)) : Q (am_ldJ none f ls[k]?) (am_ldJ none f' (ls.map (rv μ))[k]?) := by
  rw [List.getElem?_map]
  unfold am_ldJ
  split
  · rename_i x e
    rw [e]
    exact hf x
  · exact h0 _
theorem r_ldA {f f' : Option Nat → AR} {k : Nat} (h0 : ∀ b, Q none b) (hl : rl n ls) (hf : ∀ v : Option Nat, (∀ b, v = some b → b < n) → Q (f v) (f' (v.map μ))) : Q (am_ldA none f ls[k]?) (am_ldA none f' (ls.map (rv μ))[k]?) := by
  rw [List.getElem?_map]
  unfold am_ldA
  split
  · rename_i x e
    rw [e]
    exact hf (some _) (fun b z => by cases z; exact rl_lk hl e _ rfl)
  · rename_i e
    rw [e]
    exact hf none (fun b z => by cases z)
  · exact h0 _
theorem r_oe {v : Option Nat} {x x' : AR} {f f' : Nat → AR} (hn : v = none → Q x x') (hf : ∀ b, v = some b → Q (f b) (f' (μ b))) : Q (am_oe v x f) (am_oe (v.map μ) x' f') := by
  cases v with
  | none => exact hn rfl
  | some b => exact hf b rfl
theorem r_sw {f f' : Nat → AR} {x : Int32} {d : Nat} (hf : ∀ p, Q (f p) (f' p)) : ∀ (l : List Nat) (k : Nat), Q (am_sw f x d k l) (am_sw f' x d k l)
  | [], _ => hf _
  | t :: r, k => by
    unfold am_sw
    split
    · exact hf _
    · exact r_sw hf r (k + 1)
theorem r_if {P P' : Prop} [Decidable P] [Decidable P'] {x y x' y' : AR} (hp : P' ↔ P) (h1 : P → Q x x') (h2 : ¬ P → Q y y') : Q (if P then x else y) (if P' then x' else y') := by
  by_cases h : P
  · rw [if_pos h, if_pos (hp.2 h)]; exact h1 h
  · rw [if_neg h, if_neg (fun z => h (hp.1 z))]; exact h2 h
end conts
section ops
variable {μ : Nat → Nat} {h H h0 H0 : AH} {Q : AR → AR → Prop} {no' : AR} {st ls : List Value}
variable {nx nx' : Nat → List Value → List Value → AH → AR} {cl cl' : Nat → Nat → Nat → List Value → Nat → List Value → List Value → AH → AR} {rt rt' : Option Value → AH → AR} {rk n : Nat} {ts : List Nat} {cv : Int32} {cj : Int64}
/-- what goes on goes on alike -/
def rC (μ : Nat → Nat) (h0 H0 : AH) (Q : AR → AR → Prop) (nx nx' : Nat → List Value → List Value → AH → AR) (cl cl' : Nat → Nat → Nat → List Value → Nat → List Value → List Value → AH → AR) (rt rt' : Option Value → AH → AR) : Prop :=
  (∀ b, Q none b) ∧ (∀ pc ls st h H, rS μ h0 H0 h H → rl h.1.length ls → rl h.1.length st → Q (nx pc ls st h) (nx' pc (ls.map (rv μ)) (st.map (rv μ)) H)) ∧
  (∀ mi rk nL as pc ls st h H, rS μ h0 H0 h H → rl h.1.length as → rl h.1.length ls → rl h.1.length st → Q (cl mi rk nL as pc ls st h) (cl' mi rk nL (as.map (rv μ)) pc (ls.map (rv μ)) (st.map (rv μ)) H)) ∧
  (∀ v h H, rS μ h0 H0 h H → (∀ w, v = some w → rok h.1.length w) → Q (rt v h) (rt' (v.map (rv μ)) H)) ∧ ∀ i, μ (h0.1.length + i) = H0.1.length + i

theorem r_x_cI (C : rC μ h0 H0 Q nx nx' cl cl' rt rt') (s : rS μ h0 H0 h H) (hl : rl h.1.length ls) (hs : rl h.1.length st) : Q (am_x_cI nx cl rt none rk n ts cv cj ls st h) (am_x_cI nx' cl' rt' none rk n ts cv cj (ls.map (rv μ)) (st.map (rv μ)) H) := by
  unfold am_x_cI
  exact C.2.1 _ _ _ _ _ s hl (rl_cons rok_i hs)
theorem r_x_cJ (C : rC μ h0 H0 Q nx nx' cl cl' rt rt') (s : rS μ h0 H0 h H) (hl : rl h.1.length ls) (hs : rl h.1.length st) : Q (am_x_cJ nx cl rt none rk n ts cv cj ls st h) (am_x_cJ nx' cl' rt' none rk n ts cv cj (ls.map (rv μ)) (st.map (rv μ)) H) := by
  unfold am_x_cJ
  exact C.2.1 _ _ _ _ _ s hl (rl_cons rok_l hs)
theorem r_x_aconst_null (C : rC μ h0 H0 Q nx nx' cl cl' rt rt') (s : rS μ h0 H0 h H) (hl : rl h.1.length ls) (hs : rl h.1.length st) : Q (am_x_aconst_null nx cl rt none rk n ts cv cj ls st h) (am_x_aconst_null nx' cl' rt' none rk n ts cv cj (ls.map (rv μ)) (st.map (rv μ)) H) := by
  unfold am_x_aconst_null
  exact C.2.1 _ _ _ _ _ s hl (rl_cons rok_n hs)
theorem r_x_iload {k0 : Nat} (C : rC μ h0 H0 Q nx nx' cl cl' rt rt') (s : rS μ h0 H0 h H) (hl : rl h.1.length ls) (hs : rl h.1.length st) : Q (am_x_iload k0 nx cl rt none rk n ts cv cj ls st h) (am_x_iload k0 nx' cl' rt' none rk n ts cv cj (ls.map (rv μ)) (st.map (rv μ)) H) := by
  unfold am_x_iload
  exact r_ldI C.1 (fun x => C.2.1 _ _ _ _ _ s hl (rl_cons rok_i hs))
theorem r_x_lload {k0 : Nat} (C : rC μ h0 H0 Q nx nx' cl cl' rt rt') (s : rS μ h0 H0 h H) (hl : rl h.1.length ls) (hs : rl h.1.length st) : Q (am_x_lload k0 nx cl rt none rk n ts cv cj ls st h) (am_x_lload k0 nx' cl' rt' none rk n ts cv cj (ls.map (rv μ)) (st.map (rv μ)) H) := by
  unfold am_x_lload
  exact r_ldJ C.1 (fun x => C.2.1 _ _ _ _ _ s hl (rl_cons rok_l hs))
theorem r_x_aload {k0 : Nat} (C : rC μ h0 H0 Q nx nx' cl cl' rt rt') (s : rS μ h0 H0 h H) (hl : rl h.1.length ls) (hs : rl h.1.length st) : Q (am_x_aload k0 nx cl rt none rk n ts cv cj ls st h) (am_x_aload k0 nx' cl' rt' none rk n ts cv cj (ls.map (rv μ)) (st.map (rv μ)) H) := by
  unfold am_x_aload
  refine r_ldA C.1 hl (fun v hv => ?_)
  rw [← rv_ob]
  exact C.2.1 _ _ _ _ _ s hl (rl_cons (rok_o hv) hs)
theorem r_x_istore {k0 : Nat} (C : rC μ h0 H0 Q nx nx' cl cl' rt rt') (s : rS μ h0 H0 h H) (hl : rl h.1.length ls) (hs : rl h.1.length st) : Q (am_x_istore k0 nx cl rt none rk n ts cv cj ls st h) (am_x_istore k0 nx' cl' rt' none rk n ts cv cj (ls.map (rv μ)) (st.map (rv μ)) H) := by
  unfold am_x_istore
  refine r_i1 C.1 hs (fun x r hr => ?_)
  refine r_if (by rw [List.length_map]) (fun _ => ?_) (fun _ => C.1 _)
  have k := C.2.1 n _ _ _ _ s (rl_set1 ls k0 (.int x) hl rok_i) hr
  rw [rv_set1] at k
  exact k
theorem r_x_lstore {k0 : Nat} (C : rC μ h0 H0 Q nx nx' cl cl' rt rt') (s : rS μ h0 H0 h H) (hl : rl h.1.length ls) (hs : rl h.1.length st) : Q (am_x_lstore k0 nx cl rt none rk n ts cv cj ls st h) (am_x_lstore k0 nx' cl' rt' none rk n ts cv cj (ls.map (rv μ)) (st.map (rv μ)) H) := by
  unfold am_x_lstore
  refine r_l1 C.1 hs (fun x r hr => ?_)
  refine r_if (by rw [List.length_map]) (fun _ => ?_) (fun _ => C.1 _)
  have k := C.2.1 n _ _ _ _ s (rl_set2 ls k0 (.long x) hl rok_l) hr
  rw [rv_set2] at k
  exact k
theorem r_x_astore {k0 : Nat} (C : rC μ h0 H0 Q nx nx' cl cl' rt rt') (s : rS μ h0 H0 h H) (hl : rl h.1.length ls) (hs : rl h.1.length st) : Q (am_x_astore k0 nx cl rt none rk n ts cv cj ls st h) (am_x_astore k0 nx' cl' rt' none rk n ts cv cj (ls.map (rv μ)) (st.map (rv μ)) H) := by
  unfold am_x_astore
  refine r_o1 C.1 hs (fun v r hv hr => ?_)
  refine r_if (by rw [List.length_map]) (fun _ => ?_) (fun _ => C.1 _)
  have k := C.2.1 n _ _ _ _ s (rl_set1 ls k0 (am_ob v) hl (rok_o hv)) hr
  rw [rv_set1, rv_ob] at k
  exact k
theorem r_x_iinc {k0 : Nat} (C : rC μ h0 H0 Q nx nx' cl cl' rt rt') (s : rS μ h0 H0 h H) (hl : rl h.1.length ls) (hs : rl h.1.length st) : Q (am_x_iinc k0 nx cl rt none rk n ts cv cj ls st h) (am_x_iinc k0 nx' cl' rt' none rk n ts cv cj (ls.map (rv μ)) (st.map (rv μ)) H) := by
  unfold am_x_iinc
  refine r_ldI C.1 (fun x => ?_)
  refine r_if (by rw [List.length_map]) (fun _ => ?_) (fun _ => C.1 _)
  have k := C.2.1 n _ _ _ _ s (rl_set1 ls k0 (.int (x + cv)) hl rok_i) hs
  rw [rv_set1] at k
  exact k
theorem r_x_iadd (C : rC μ h0 H0 Q nx nx' cl cl' rt rt') (s : rS μ h0 H0 h H) (hl : rl h.1.length ls) (hs : rl h.1.length st) : Q (am_x_iadd nx cl rt none rk n ts cv cj ls st h) (am_x_iadd nx' cl' rt' none rk n ts cv cj (ls.map (rv μ)) (st.map (rv μ)) H) := by
  unfold am_x_iadd
  exact r_i2 C.1 hs (fun x y r hr => C.2.1 _ _ _ _ _ s hl (rl_cons rok_i hr))
theorem r_x_isub (C : rC μ h0 H0 Q nx nx' cl cl' rt rt') (s : rS μ h0 H0 h H) (hl : rl h.1.length ls) (hs : rl h.1.length st) : Q (am_x_isub nx cl rt none rk n ts cv cj ls st h) (am_x_isub nx' cl' rt' none rk n ts cv cj (ls.map (rv μ)) (st.map (rv μ)) H) := by
  unfold am_x_isub
  exact r_i2 C.1 hs (fun x y r hr => C.2.1 _ _ _ _ _ s hl (rl_cons rok_i hr))
theorem r_x_imul (C : rC μ h0 H0 Q nx nx' cl cl' rt rt') (s : rS μ h0 H0 h H) (hl : rl h.1.length ls) (hs : rl h.1.length st) : Q (am_x_imul nx cl rt none rk n ts cv cj ls st h) (am_x_imul nx' cl' rt' none rk n ts cv cj (ls.map (rv μ)) (st.map (rv μ)) H) := by
  unfold am_x_imul
  exact r_i2 C.1 hs (fun x y r hr => C.2.1 _ _ _ _ _ s hl (rl_cons rok_i hr))
theorem r_x_iand (C : rC μ h0 H0 Q nx nx' cl cl' rt rt') (s : rS μ h0 H0 h H) (hl : rl h.1.length ls) (hs : rl h.1.length st) : Q (am_x_iand nx cl rt none rk n ts cv cj ls st h) (am_x_iand nx' cl' rt' none rk n ts cv cj (ls.map (rv μ)) (st.map (rv μ)) H) := by
  unfold am_x_iand
  exact r_i2 C.1 hs (fun x y r hr => C.2.1 _ _ _ _ _ s hl (rl_cons rok_i hr))
theorem r_x_ior (C : rC μ h0 H0 Q nx nx' cl cl' rt rt') (s : rS μ h0 H0 h H) (hl : rl h.1.length ls) (hs : rl h.1.length st) : Q (am_x_ior nx cl rt none rk n ts cv cj ls st h) (am_x_ior nx' cl' rt' none rk n ts cv cj (ls.map (rv μ)) (st.map (rv μ)) H) := by
  unfold am_x_ior
  exact r_i2 C.1 hs (fun x y r hr => C.2.1 _ _ _ _ _ s hl (rl_cons rok_i hr))
theorem r_x_ixor (C : rC μ h0 H0 Q nx nx' cl cl' rt rt') (s : rS μ h0 H0 h H) (hl : rl h.1.length ls) (hs : rl h.1.length st) : Q (am_x_ixor nx cl rt none rk n ts cv cj ls st h) (am_x_ixor nx' cl' rt' none rk n ts cv cj (ls.map (rv μ)) (st.map (rv μ)) H) := by
  unfold am_x_ixor
  exact r_i2 C.1 hs (fun x y r hr => C.2.1 _ _ _ _ _ s hl (rl_cons rok_i hr))
theorem r_x_idiv (C : rC μ h0 H0 Q nx nx' cl cl' rt rt') (s : rS μ h0 H0 h H) (hl : rl h.1.length ls) (hs : rl h.1.length st) : Q (am_x_idiv nx cl rt none rk n ts cv cj ls st h) (am_x_idiv nx' cl' rt' none rk n ts cv cj (ls.map (rv μ)) (st.map (rv μ)) H) := by
  unfold am_x_idiv
  exact r_i2 C.1 hs (fun x y r hr => r_if Iff.rfl (fun _ => C.1 _) (fun _ => C.2.1 _ _ _ _ _ s hl (rl_cons rok_i hr)))
theorem r_x_irem (C : rC μ h0 H0 Q nx nx' cl cl' rt rt') (s : rS μ h0 H0 h H) (hl : rl h.1.length ls) (hs : rl h.1.length st) : Q (am_x_irem nx cl rt none rk n ts cv cj ls st h) (am_x_irem nx' cl' rt' none rk n ts cv cj (ls.map (rv μ)) (st.map (rv μ)) H) := by
  unfold am_x_irem
  exact r_i2 C.1 hs (fun x y r hr => r_if Iff.rfl (fun _ => C.1 _) (fun _ => C.2.1 _ _ _ _ _ s hl (rl_cons rok_i hr)))
theorem r_x_ishl (C : rC μ h0 H0 Q nx nx' cl cl' rt rt') (s : rS μ h0 H0 h H) (hl : rl h.1.length ls) (hs : rl h.1.length st) : Q (am_x_ishl nx cl rt none rk n ts cv cj ls st h) (am_x_ishl nx' cl' rt' none rk n ts cv cj (ls.map (rv μ)) (st.map (rv μ)) H) := by
  unfold am_x_ishl
  exact r_i2 C.1 hs (fun x y r hr => C.2.1 _ _ _ _ _ s hl (rl_cons rok_i hr))
theorem r_x_ishr (C : rC μ h0 H0 Q nx nx' cl cl' rt rt') (s : rS μ h0 H0 h H) (hl : rl h.1.length ls) (hs : rl h.1.length st) : Q (am_x_ishr nx cl rt none rk n ts cv cj ls st h) (am_x_ishr nx' cl' rt' none rk n ts cv cj (ls.map (rv μ)) (st.map (rv μ)) H) := by
  unfold am_x_ishr
  exact r_i2 C.1 hs (fun x y r hr => C.2.1 _ _ _ _ _ s hl (rl_cons rok_i hr))
theorem r_x_ladd (C : rC μ h0 H0 Q nx nx' cl cl' rt rt') (s : rS μ h0 H0 h H) (hl : rl h.1.length ls) (hs : rl h.1.length st) : Q (am_x_ladd nx cl rt none rk n ts cv cj ls st h) (am_x_ladd nx' cl' rt' none rk n ts cv cj (ls.map (rv μ)) (st.map (rv μ)) H) := by
  unfold am_x_ladd
  exact r_l2 C.1 hs (fun x y r hr => C.2.1 _ _ _ _ _ s hl (rl_cons rok_l hr))
theorem r_x_lsub (C : rC μ h0 H0 Q nx nx' cl cl' rt rt') (s : rS μ h0 H0 h H) (hl : rl h.1.length ls) (hs : rl h.1.length st) : Q (am_x_lsub nx cl rt none rk n ts cv cj ls st h) (am_x_lsub nx' cl' rt' none rk n ts cv cj (ls.map (rv μ)) (st.map (rv μ)) H) := by
  unfold am_x_lsub
  exact r_l2 C.1 hs (fun x y r hr => C.2.1 _ _ _ _ _ s hl (rl_cons rok_l hr))
theorem r_x_lmul (C : rC μ h0 H0 Q nx nx' cl cl' rt rt') (s : rS μ h0 H0 h H) (hl : rl h.1.length ls) (hs : rl h.1.length st) : Q (am_x_lmul nx cl rt none rk n ts cv cj ls st h) (am_x_lmul nx' cl' rt' none rk n ts cv cj (ls.map (rv μ)) (st.map (rv μ)) H) := by
  unfold am_x_lmul
  exact r_l2 C.1 hs (fun x y r hr => C.2.1 _ _ _ _ _ s hl (rl_cons rok_l hr))
theorem r_x_land (C : rC μ h0 H0 Q nx nx' cl cl' rt rt') (s : rS μ h0 H0 h H) (hl : rl h.1.length ls) (hs : rl h.1.length st) : Q (am_x_land nx cl rt none rk n ts cv cj ls st h) (am_x_land nx' cl' rt' none rk n ts cv cj (ls.map (rv μ)) (st.map (rv μ)) H) := by
  unfold am_x_land
  exact r_l2 C.1 hs (fun x y r hr => C.2.1 _ _ _ _ _ s hl (rl_cons rok_l hr))
theorem r_x_lor (C : rC μ h0 H0 Q nx nx' cl cl' rt rt') (s : rS μ h0 H0 h H) (hl : rl h.1.length ls) (hs : rl h.1.length st) : Q (am_x_lor nx cl rt none rk n ts cv cj ls st h) (am_x_lor nx' cl' rt' none rk n ts cv cj (ls.map (rv μ)) (st.map (rv μ)) H) := by
  unfold am_x_lor
  exact r_l2 C.1 hs (fun x y r hr => C.2.1 _ _ _ _ _ s hl (rl_cons rok_l hr))
theorem r_x_lxor (C : rC μ h0 H0 Q nx nx' cl cl' rt rt') (s : rS μ h0 H0 h H) (hl : rl h.1.length ls) (hs : rl h.1.length st) : Q (am_x_lxor nx cl rt none rk n ts cv cj ls st h) (am_x_lxor nx' cl' rt' none rk n ts cv cj (ls.map (rv μ)) (st.map (rv μ)) H) := by
  unfold am_x_lxor
  exact r_l2 C.1 hs (fun x y r hr => C.2.1 _ _ _ _ _ s hl (rl_cons rok_l hr))
theorem r_x_ldiv (C : rC μ h0 H0 Q nx nx' cl cl' rt rt') (s : rS μ h0 H0 h H) (hl : rl h.1.length ls) (hs : rl h.1.length st) : Q (am_x_ldiv nx cl rt none rk n ts cv cj ls st h) (am_x_ldiv nx' cl' rt' none rk n ts cv cj (ls.map (rv μ)) (st.map (rv μ)) H) := by
  unfold am_x_ldiv
  exact r_l2 C.1 hs (fun x y r hr => r_if Iff.rfl (fun _ => C.1 _) (fun _ => C.2.1 _ _ _ _ _ s hl (rl_cons rok_l hr)))
theorem r_x_lrem (C : rC μ h0 H0 Q nx nx' cl cl' rt rt') (s : rS μ h0 H0 h H) (hl : rl h.1.length ls) (hs : rl h.1.length st) : Q (am_x_lrem nx cl rt none rk n ts cv cj ls st h) (am_x_lrem nx' cl' rt' none rk n ts cv cj (ls.map (rv μ)) (st.map (rv μ)) H) := by
  unfold am_x_lrem
  exact r_l2 C.1 hs (fun x y r hr => r_if Iff.rfl (fun _ => C.1 _) (fun _ => C.2.1 _ _ _ _ _ s hl (rl_cons rok_l hr)))
theorem r_x_lneg (C : rC μ h0 H0 Q nx nx' cl cl' rt rt') (s : rS μ h0 H0 h H) (hl : rl h.1.length ls) (hs : rl h.1.length st) : Q (am_x_lneg nx cl rt none rk n ts cv cj ls st h) (am_x_lneg nx' cl' rt' none rk n ts cv cj (ls.map (rv μ)) (st.map (rv μ)) H) := by
  unfold am_x_lneg
  exact r_l1 C.1 hs (fun x r hr => C.2.1 _ _ _ _ _ s hl (rl_cons rok_l hr))
theorem r_x_lshl (C : rC μ h0 H0 Q nx nx' cl cl' rt rt') (s : rS μ h0 H0 h H) (hl : rl h.1.length ls) (hs : rl h.1.length st) : Q (am_x_lshl nx cl rt none rk n ts cv cj ls st h) (am_x_lshl nx' cl' rt' none rk n ts cv cj (ls.map (rv μ)) (st.map (rv μ)) H) := by
  unfold am_x_lshl
  exact r_li C.1 hs (fun x y r hr => C.2.1 _ _ _ _ _ s hl (rl_cons rok_l hr))
theorem r_x_lushr (C : rC μ h0 H0 Q nx nx' cl cl' rt rt') (s : rS μ h0 H0 h H) (hl : rl h.1.length ls) (hs : rl h.1.length st) : Q (am_x_lushr nx cl rt none rk n ts cv cj ls st h) (am_x_lushr nx' cl' rt' none rk n ts cv cj (ls.map (rv μ)) (st.map (rv μ)) H) := by
  unfold am_x_lushr
  exact r_li C.1 hs (fun x y r hr => C.2.1 _ _ _ _ _ s hl (rl_cons rok_l hr))
theorem r_x_lcmp (C : rC μ h0 H0 Q nx nx' cl cl' rt rt') (s : rS μ h0 H0 h H) (hl : rl h.1.length ls) (hs : rl h.1.length st) : Q (am_x_lcmp nx cl rt none rk n ts cv cj ls st h) (am_x_lcmp nx' cl' rt' none rk n ts cv cj (ls.map (rv μ)) (st.map (rv μ)) H) := by
  unfold am_x_lcmp
  exact r_l2 C.1 hs (fun x y r hr => C.2.1 _ _ _ _ _ s hl (rl_cons rok_i hr))
theorem r_x_i2l (C : rC μ h0 H0 Q nx nx' cl cl' rt rt') (s : rS μ h0 H0 h H) (hl : rl h.1.length ls) (hs : rl h.1.length st) : Q (am_x_i2l nx cl rt none rk n ts cv cj ls st h) (am_x_i2l nx' cl' rt' none rk n ts cv cj (ls.map (rv μ)) (st.map (rv μ)) H) := by
  unfold am_x_i2l
  exact r_i1 C.1 hs (fun x r hr => C.2.1 _ _ _ _ _ s hl (rl_cons rok_l hr))
theorem r_x_l2i (C : rC μ h0 H0 Q nx nx' cl cl' rt rt') (s : rS μ h0 H0 h H) (hl : rl h.1.length ls) (hs : rl h.1.length st) : Q (am_x_l2i nx cl rt none rk n ts cv cj ls st h) (am_x_l2i nx' cl' rt' none rk n ts cv cj (ls.map (rv μ)) (st.map (rv μ)) H) := by
  unfold am_x_l2i
  exact r_l1 C.1 hs (fun x r hr => C.2.1 _ _ _ _ _ s hl (rl_cons rok_i hr))
theorem r_x_i2c (C : rC μ h0 H0 Q nx nx' cl cl' rt rt') (s : rS μ h0 H0 h H) (hl : rl h.1.length ls) (hs : rl h.1.length st) : Q (am_x_i2c nx cl rt none rk n ts cv cj ls st h) (am_x_i2c nx' cl' rt' none rk n ts cv cj (ls.map (rv μ)) (st.map (rv μ)) H) := by
  unfold am_x_i2c
  exact r_i1 C.1 hs (fun x r hr => C.2.1 _ _ _ _ _ s hl (rl_cons rok_i hr))
theorem r_x_dup (C : rC μ h0 H0 Q nx nx' cl cl' rt rt') (s : rS μ h0 H0 h H) (hl : rl h.1.length ls) (hs : rl h.1.length st) : Q (am_x_dup nx cl rt none rk n ts cv cj ls st h) (am_x_dup nx' cl' rt' none rk n ts cv cj (ls.map (rv μ)) (st.map (rv μ)) H) := by
  unfold am_x_dup
  exact r_v1 C.1 hs (fun v r hv hr => C.2.1 _ _ _ _ _ s hl (rl_cons hv (rl_cons hv hr)))
theorem r_x_dup2 (C : rC μ h0 H0 Q nx nx' cl cl' rt rt') (s : rS μ h0 H0 h H) (hl : rl h.1.length ls) (hs : rl h.1.length st) : Q (am_x_dup2 nx cl rt none rk n ts cv cj ls st h) (am_x_dup2 nx' cl' rt' none rk n ts cv cj (ls.map (rv μ)) (st.map (rv μ)) H) := by
  unfold am_x_dup2
  exact r_v2 C.1 hs (fun v w r hv hw hr => C.2.1 _ _ _ _ _ s hl (rl_cons hv (rl_cons hw (rl_cons hv (rl_cons hw hr)))))
theorem r_x_ifCond_eq (C : rC μ h0 H0 Q nx nx' cl cl' rt rt') (s : rS μ h0 H0 h H) (hl : rl h.1.length ls) (hs : rl h.1.length st) : Q (am_x_ifCond_eq nx cl rt none rk n ts cv cj ls st h) (am_x_ifCond_eq nx' cl' rt' none rk n ts cv cj (ls.map (rv μ)) (st.map (rv μ)) H) := by
  unfold am_x_ifCond_eq
  split
  · exact r_i1 C.1 hs (fun x r hr => r_if Iff.rfl (fun _ => C.2.1 _ _ _ _ _ s hl hr) (fun _ => C.2.1 _ _ _ _ _ s hl hr))
  · exact C.1 _
theorem r_x_ifCond_ne (C : rC μ h0 H0 Q nx nx' cl cl' rt rt') (s : rS μ h0 H0 h H) (hl : rl h.1.length ls) (hs : rl h.1.length st) : Q (am_x_ifCond_ne nx cl rt none rk n ts cv cj ls st h) (am_x_ifCond_ne nx' cl' rt' none rk n ts cv cj (ls.map (rv μ)) (st.map (rv μ)) H) := by
  unfold am_x_ifCond_ne
  split
  · exact r_i1 C.1 hs (fun x r hr => r_if Iff.rfl (fun _ => C.2.1 _ _ _ _ _ s hl hr) (fun _ => C.2.1 _ _ _ _ _ s hl hr))
  · exact C.1 _
theorem r_x_ifCond_lt (C : rC μ h0 H0 Q nx nx' cl cl' rt rt') (s : rS μ h0 H0 h H) (hl : rl h.1.length ls) (hs : rl h.1.length st) : Q (am_x_ifCond_lt nx cl rt none rk n ts cv cj ls st h) (am_x_ifCond_lt nx' cl' rt' none rk n ts cv cj (ls.map (rv μ)) (st.map (rv μ)) H) := by
  unfold am_x_ifCond_lt
  split
  · exact r_i1 C.1 hs (fun x r hr => r_if Iff.rfl (fun _ => C.2.1 _ _ _ _ _ s hl hr) (fun _ => C.2.1 _ _ _ _ _ s hl hr))
  · exact C.1 _
theorem r_x_ifCond_ge (C : rC μ h0 H0 Q nx nx' cl cl' rt rt') (s : rS μ h0 H0 h H) (hl : rl h.1.length ls) (hs : rl h.1.length st) : Q (am_x_ifCond_ge nx cl rt none rk n ts cv cj ls st h) (am_x_ifCond_ge nx' cl' rt' none rk n ts cv cj (ls.map (rv μ)) (st.map (rv μ)) H) := by
  unfold am_x_ifCond_ge
  split
  · exact r_i1 C.1 hs (fun x r hr => r_if Iff.rfl (fun _ => C.2.1 _ _ _ _ _ s hl hr) (fun _ => C.2.1 _ _ _ _ _ s hl hr))
  · exact C.1 _
theorem r_x_ifCond_gt (C : rC μ h0 H0 Q nx nx' cl cl' rt rt') (s : rS μ h0 H0 h H) (hl : rl h.1.length ls) (hs : rl h.1.length st) : Q (am_x_ifCond_gt nx cl rt none rk n ts cv cj ls st h) (am_x_ifCond_gt nx' cl' rt' none rk n ts cv cj (ls.map (rv μ)) (st.map (rv μ)) H) := by
  unfold am_x_ifCond_gt
  split
  · exact r_i1 C.1 hs (fun x r hr => r_if Iff.rfl (fun _ => C.2.1 _ _ _ _ _ s hl hr) (fun _ => C.2.1 _ _ _ _ _ s hl hr))
  · exact C.1 _
theorem r_x_ifCond_le (C : rC μ h0 H0 Q nx nx' cl cl' rt rt') (s : rS μ h0 H0 h H) (hl : rl h.1.length ls) (hs : rl h.1.length st) : Q (am_x_ifCond_le nx cl rt none rk n ts cv cj ls st h) (am_x_ifCond_le nx' cl' rt' none rk n ts cv cj (ls.map (rv μ)) (st.map (rv μ)) H) := by
  unfold am_x_ifCond_le
  split
  · exact r_i1 C.1 hs (fun x r hr => r_if Iff.rfl (fun _ => C.2.1 _ _ _ _ _ s hl hr) (fun _ => C.2.1 _ _ _ _ _ s hl hr))
  · exact C.1 _
theorem r_x_if_icmp_eq (C : rC μ h0 H0 Q nx nx' cl cl' rt rt') (s : rS μ h0 H0 h H) (hl : rl h.1.length ls) (hs : rl h.1.length st) : Q (am_x_if_icmp_eq nx cl rt none rk n ts cv cj ls st h) (am_x_if_icmp_eq nx' cl' rt' none rk n ts cv cj (ls.map (rv μ)) (st.map (rv μ)) H) := by
  unfold am_x_if_icmp_eq
  split
  · exact r_i2 C.1 hs (fun x y r hr => r_if Iff.rfl (fun _ => C.2.1 _ _ _ _ _ s hl hr) (fun _ => C.2.1 _ _ _ _ _ s hl hr))
  · exact C.1 _
theorem r_x_if_icmp_ne (C : rC μ h0 H0 Q nx nx' cl cl' rt rt') (s : rS μ h0 H0 h H) (hl : rl h.1.length ls) (hs : rl h.1.length st) : Q (am_x_if_icmp_ne nx cl rt none rk n ts cv cj ls st h) (am_x_if_icmp_ne nx' cl' rt' none rk n ts cv cj (ls.map (rv μ)) (st.map (rv μ)) H) := by
  unfold am_x_if_icmp_ne
  split
  · exact r_i2 C.1 hs (fun x y r hr => r_if Iff.rfl (fun _ => C.2.1 _ _ _ _ _ s hl hr) (fun _ => C.2.1 _ _ _ _ _ s hl hr))
  · exact C.1 _
theorem r_x_if_icmp_lt (C : rC μ h0 H0 Q nx nx' cl cl' rt rt') (s : rS μ h0 H0 h H) (hl : rl h.1.length ls) (hs : rl h.1.length st) : Q (am_x_if_icmp_lt nx cl rt none rk n ts cv cj ls st h) (am_x_if_icmp_lt nx' cl' rt' none rk n ts cv cj (ls.map (rv μ)) (st.map (rv μ)) H) := by
  unfold am_x_if_icmp_lt
  split
  · exact r_i2 C.1 hs (fun x y r hr => r_if Iff.rfl (fun _ => C.2.1 _ _ _ _ _ s hl hr) (fun _ => C.2.1 _ _ _ _ _ s hl hr))
  · exact C.1 _
theorem r_x_if_icmp_ge (C : rC μ h0 H0 Q nx nx' cl cl' rt rt') (s : rS μ h0 H0 h H) (hl : rl h.1.length ls) (hs : rl h.1.length st) : Q (am_x_if_icmp_ge nx cl rt none rk n ts cv cj ls st h) (am_x_if_icmp_ge nx' cl' rt' none rk n ts cv cj (ls.map (rv μ)) (st.map (rv μ)) H) := by
  unfold am_x_if_icmp_ge
  split
  · exact r_i2 C.1 hs (fun x y r hr => r_if Iff.rfl (fun _ => C.2.1 _ _ _ _ _ s hl hr) (fun _ => C.2.1 _ _ _ _ _ s hl hr))
  · exact C.1 _
theorem r_x_if_icmp_gt (C : rC μ h0 H0 Q nx nx' cl cl' rt rt') (s : rS μ h0 H0 h H) (hl : rl h.1.length ls) (hs : rl h.1.length st) : Q (am_x_if_icmp_gt nx cl rt none rk n ts cv cj ls st h) (am_x_if_icmp_gt nx' cl' rt' none rk n ts cv cj (ls.map (rv μ)) (st.map (rv μ)) H) := by
  unfold am_x_if_icmp_gt
  split
  · exact r_i2 C.1 hs (fun x y r hr => r_if Iff.rfl (fun _ => C.2.1 _ _ _ _ _ s hl hr) (fun _ => C.2.1 _ _ _ _ _ s hl hr))
  · exact C.1 _
theorem r_x_if_icmp_le (C : rC μ h0 H0 Q nx nx' cl cl' rt rt') (s : rS μ h0 H0 h H) (hl : rl h.1.length ls) (hs : rl h.1.length st) : Q (am_x_if_icmp_le nx cl rt none rk n ts cv cj ls st h) (am_x_if_icmp_le nx' cl' rt' none rk n ts cv cj (ls.map (rv μ)) (st.map (rv μ)) H) := by
  unfold am_x_if_icmp_le
  split
  · exact r_i2 C.1 hs (fun x y r hr => r_if Iff.rfl (fun _ => C.2.1 _ _ _ _ _ s hl hr) (fun _ => C.2.1 _ _ _ _ _ s hl hr))
  · exact C.1 _
theorem r_x_ifnonnull (C : rC μ h0 H0 Q nx nx' cl cl' rt rt') (s : rS μ h0 H0 h H) (hl : rl h.1.length ls) (hs : rl h.1.length st) : Q (am_x_ifnonnull nx cl rt none rk n ts cv cj ls st h) (am_x_ifnonnull nx' cl' rt' none rk n ts cv cj (ls.map (rv μ)) (st.map (rv μ)) H) := by
  unfold am_x_ifnonnull
  split
  · exact r_o1 C.1 hs (fun v r hv hr => r_oe (fun _ => C.2.1 _ _ _ _ _ s hl hr) (fun b _ => C.2.1 _ _ _ _ _ s hl hr))
  · exact C.1 _
theorem r_x_goto (C : rC μ h0 H0 Q nx nx' cl cl' rt rt') (s : rS μ h0 H0 h H) (hl : rl h.1.length ls) (hs : rl h.1.length st) : Q (am_x_goto nx cl rt none rk n ts cv cj ls st h) (am_x_goto nx' cl' rt' none rk n ts cv cj (ls.map (rv μ)) (st.map (rv μ)) H) := by
  unfold am_x_goto
  split
  · exact C.2.1 _ _ _ _ _ s hl hs
  · exact C.1 _
theorem r_x_tableswitch (C : rC μ h0 H0 Q nx nx' cl cl' rt rt') (s : rS μ h0 H0 h H) (hl : rl h.1.length ls) (hs : rl h.1.length st) : Q (am_x_tableswitch nx cl rt none rk n ts cv cj ls st h) (am_x_tableswitch nx' cl' rt' none rk n ts cv cj (ls.map (rv μ)) (st.map (rv μ)) H) := by
  unfold am_x_tableswitch
  split
  · exact r_i1 C.1 hs (fun x r hr => r_sw (fun p => C.2.1 _ _ _ _ _ s hl hr) _ _)
  · exact C.1 _
theorem r_x_getfield (C : rC μ h0 H0 Q nx nx' cl cl' rt rt') (s : rS μ h0 H0 h H) (hl : rl h.1.length ls) (hs : rl h.1.length st) : Q (am_x_getfield nx cl rt none rk n ts cv cj ls st h) (am_x_getfield nx' cl' rt' none rk n ts cv cj (ls.map (rv μ)) (st.map (rv μ)) H) := by
  unfold am_x_getfield
  split
  · refine r_r1 C.1 hs (fun a r ha hr => r_if (by rw [s.1.kd]) (fun _ => ?_) (fun _ => C.1 _))
    rw [(s.1.2.2.2.2.1 a ha).2.2]
    exact r_oe (fun _ => C.2.1 _ _ _ _ _ s hl (rl_cons rok_n hr)) (fun b e => C.2.1 _ _ _ _ _ s hl (rl_cons (rok_r (s.1.2.2.2.2.2 a _ b ha e)) hr))
  · refine r_r1 C.1 hs (fun a r ha hr => r_if (by rw [s.1.kd]) (fun _ => ?_) (fun _ => C.1 _))
    rw [(s.1.2.2.2.2.1 a ha).1]
    exact C.2.1 _ _ _ _ _ s hl (rl_cons rok_i hr)
  · exact C.1 _
theorem r_x_putfield (C : rC μ h0 H0 Q nx nx' cl cl' rt rt') (s : rS μ h0 H0 h H) (hl : rl h.1.length ls) (hs : rl h.1.length st) (h9 : ts.head? ≠ some 9) : Q (am_x_putfield nx cl rt none rk n ts cv cj ls st h) (am_x_putfield nx' cl' rt' none rk n ts cv cj (ls.map (rv μ)) (st.map (rv μ)) H) := by
  unfold am_x_putfield
  split
  · refine r_rr C.1 hs (fun a v r ha hv hr => r_if (by rw [s.1.kd]) (fun hc => ?_) (fun _ => C.1 _))
    exact C.2.1 _ _ _ _ _ (s.sR C.2.2.2.2 ha (fun z => h9 (by show some _ = some 9; rw [← hc, z])) _ v hv) hl hr
  · refine r_ri C.1 hs (fun a x r ha hr => r_if (by rw [s.1.kd]) (fun hc => r_if Iff.rfl (fun _ => ?_) (fun _ => C.1 _)) (fun _ => C.1 _))
    exact C.2.1 _ _ _ _ _ (s.sI C.2.2.2.2 ha (fun z => h9 (by show some _ = some 9; rw [← hc, z])) _ _) hl hr
  · refine r_ri C.1 hs (fun a x r ha hr => r_if (by rw [s.1.kd]) (fun hc => ?_) (fun _ => C.1 _))
    exact C.2.1 _ _ _ _ _ (s.sI C.2.2.2.2 ha (fun z => h9 (by show some _ = some 9; rw [← hc, z])) _ _) hl hr
  · exact C.1 _
theorem r_x_new (C : rC μ h0 H0 Q nx nx' cl cl' rt rt') (s : rS μ h0 H0 h H) (hl : rl h.1.length ls) (hs : rl h.1.length st) : Q (am_x_new nx cl rt none rk n ts cv cj ls st h) (am_x_new nx' cl' rt' none rk n ts cv cj (ls.map (rv μ)) (st.map (rv μ)) H) := by
  unfold am_x_new
  split
  · rename_i ci nf
    have e : (am_nw h ci nf).1.length = h.1.length + 1 := by show (h.1 ++ [(ci, nf)]).length = _; simp
    have k := C.2.1 n ls (.ref h.1.length :: st) _ _ (s.nw ci nf) (hl.m (by rw [e]; omega)) (rl_cons (rok_r (by rw [e]; omega)) (hs.m (by rw [e]; omega)))
    rw [List.map_cons, show rv μ (.ref h.1.length) = .ref H.1.length by show Value.ref (μ h.1.length) = _; rw [s.1.end_]] at k
    exact k
  · exact C.1 _
theorem r_x_newarray (C : rC μ h0 H0 Q nx nx' cl cl' rt rt') (s : rS μ h0 H0 h H) (hl : rl h.1.length ls) (hs : rl h.1.length st) : Q (am_x_newarray nx cl rt none rk n ts cv cj ls st h) (am_x_newarray nx' cl' rt' none rk n ts cv cj (ls.map (rv μ)) (st.map (rv μ)) H) := by
  unfold am_x_newarray
  split
  · rename_i ci
    refine r_i1 C.1 hs (fun x r hr => r_if Iff.rfl (fun _ => C.1 _) (fun _ => ?_))
    have e : (am_nw h ci x.toNatClampNeg).1.length = h.1.length + 1 := by show (h.1 ++ [(ci, x.toNatClampNeg)]).length = _; simp
    have k := C.2.1 n ls (.ref h.1.length :: r) _ _ (s.nw ci x.toNatClampNeg) (hl.m (by rw [e]; omega)) (rl_cons (rok_r (by rw [e]; omega)) (hr.m (by rw [e]; omega)))
    rw [List.map_cons, show rv μ (.ref h.1.length) = .ref H.1.length by show Value.ref (μ h.1.length) = _; rw [s.1.end_]] at k
    exact k
  · exact C.1 _
theorem r_x_anewarray (C : rC μ h0 H0 Q nx nx' cl cl' rt rt') (s : rS μ h0 H0 h H) (hl : rl h.1.length ls) (hs : rl h.1.length st) : Q (am_x_anewarray nx cl rt none rk n ts cv cj ls st h) (am_x_anewarray nx' cl' rt' none rk n ts cv cj (ls.map (rv μ)) (st.map (rv μ)) H) := by
  unfold am_x_anewarray
  · refine r_i1 C.1 hs (fun x r hr => r_if Iff.rfl (fun _ => C.1 _) (fun _ => ?_))
    have e : (am_nw h 8 x.toNatClampNeg).1.length = h.1.length + 1 := by show (h.1 ++ [(8, x.toNatClampNeg)]).length = _; simp
    have k := C.2.1 n ls (.ref h.1.length :: r) _ _ (s.nw 8 x.toNatClampNeg) (hl.m (by rw [e]; omega)) (rl_cons (rok_r (by rw [e]; omega)) (hr.m (by rw [e]; omega)))
    rw [List.map_cons, show rv μ (.ref h.1.length) = .ref H.1.length by show Value.ref (μ h.1.length) = _; rw [s.1.end_]] at k
    exact k
theorem r_x_arraylength (C : rC μ h0 H0 Q nx nx' cl cl' rt rt') (s : rS μ h0 H0 h H) (hl : rl h.1.length ls) (hs : rl h.1.length st) : Q (am_x_arraylength nx cl rt none rk n ts cv cj ls st h) (am_x_arraylength nx' cl' rt' none rk n ts cv cj (ls.map (rv μ)) (st.map (rv μ)) H) := by
  unfold am_x_arraylength
  refine r_r1 C.1 hs (fun a r ha hr => r_if (by rw [s.1.kd]) (fun _ => ?_) (fun _ => C.1 _))
  rw [s.1.ln]
  exact C.2.1 _ _ _ _ _ s hl (rl_cons rok_i hr)
theorem r_x_iaload (C : rC μ h0 H0 Q nx nx' cl cl' rt rt') (s : rS μ h0 H0 h H) (hl : rl h.1.length ls) (hs : rl h.1.length st) : Q (am_x_iaload nx cl rt none rk n ts cv cj ls st h) (am_x_iaload nx' cl' rt' none rk n ts cv cj (ls.map (rv μ)) (st.map (rv μ)) H) := by
  unfold am_x_iaload
  refine r_ai C.1 hs (fun a x r ha hr => r_if (by rw [s.1.kd, s.1.ln]) (fun _ => ?_) (fun _ => C.1 _))
  rw [(s.1.2.2.2.2.1 a ha).1]
  exact C.2.1 _ _ _ _ _ s hl (rl_cons rok_i hr)
theorem r_x_laload (C : rC μ h0 H0 Q nx nx' cl cl' rt rt') (s : rS μ h0 H0 h H) (hl : rl h.1.length ls) (hs : rl h.1.length st) : Q (am_x_laload nx cl rt none rk n ts cv cj ls st h) (am_x_laload nx' cl' rt' none rk n ts cv cj (ls.map (rv μ)) (st.map (rv μ)) H) := by
  unfold am_x_laload
  refine r_ai C.1 hs (fun a x r ha hr => r_if (by rw [s.1.kd, s.1.ln]) (fun _ => ?_) (fun _ => C.1 _))
  rw [(s.1.2.2.2.2.1 a ha).2.1]
  exact C.2.1 _ _ _ _ _ s hl (rl_cons rok_l hr)
theorem r_x_caload (C : rC μ h0 H0 Q nx nx' cl cl' rt rt') (s : rS μ h0 H0 h H) (hl : rl h.1.length ls) (hs : rl h.1.length st) : Q (am_x_caload nx cl rt none rk n ts cv cj ls st h) (am_x_caload nx' cl' rt' none rk n ts cv cj (ls.map (rv μ)) (st.map (rv μ)) H) := by
  unfold am_x_caload
  refine r_ai C.1 hs (fun a x r ha hr => r_if (by rw [s.1.kd, s.1.ln]) (fun _ => ?_) (fun _ => C.1 _))
  rw [(s.1.2.2.2.2.1 a ha).1]
  exact C.2.1 _ _ _ _ _ s hl (rl_cons rok_i hr)
theorem r_x_aaload (C : rC μ h0 H0 Q nx nx' cl cl' rt rt') (s : rS μ h0 H0 h H) (hl : rl h.1.length ls) (hs : rl h.1.length st) : Q (am_x_aaload nx cl rt none rk n ts cv cj ls st h) (am_x_aaload nx' cl' rt' none rk n ts cv cj (ls.map (rv μ)) (st.map (rv μ)) H) := by
  unfold am_x_aaload
  refine r_ai C.1 hs (fun a x r ha hr => r_if (by rw [s.1.kd, s.1.ln]) (fun _ => ?_) (fun _ => C.1 _))
  rw [(s.1.2.2.2.2.1 a ha).2.2]
  exact r_oe (fun _ => C.2.1 _ _ _ _ _ s hl (rl_cons rok_n hr)) (fun b e => C.2.1 _ _ _ _ _ s hl (rl_cons (rok_r (s.1.2.2.2.2.2 a _ b ha e)) hr))
theorem r_x_iastore (C : rC μ h0 H0 Q nx nx' cl cl' rt rt') (s : rS μ h0 H0 h H) (hl : rl h.1.length ls) (hs : rl h.1.length st) : Q (am_x_iastore nx cl rt none rk n ts cv cj ls st h) (am_x_iastore nx' cl' rt' none rk n ts cv cj (ls.map (rv μ)) (st.map (rv μ)) H) := by
  unfold am_x_iastore
  refine r_aii C.1 hs (fun a x v r ha hr => r_if (by rw [s.1.kd, s.1.ln]) (fun hc => ?_) (fun _ => C.1 _))
  exact C.2.1 _ _ _ _ _ (s.sI C.2.2.2.2 ha (by rw [hc.1]; decide) _ _) hl hr
theorem r_x_lastore (C : rC μ h0 H0 Q nx nx' cl cl' rt rt') (s : rS μ h0 H0 h H) (hl : rl h.1.length ls) (hs : rl h.1.length st) : Q (am_x_lastore nx cl rt none rk n ts cv cj ls st h) (am_x_lastore nx' cl' rt' none rk n ts cv cj (ls.map (rv μ)) (st.map (rv μ)) H) := by
  unfold am_x_lastore
  refine r_ail C.1 hs (fun a x v r ha hr => r_if (by rw [s.1.kd, s.1.ln]) (fun hc => ?_) (fun _ => C.1 _))
  exact C.2.1 _ _ _ _ _ (s.sJ C.2.2.2.2 ha (by rw [hc.1]; decide) _ _) hl hr
theorem r_x_castore (C : rC μ h0 H0 Q nx nx' cl cl' rt rt') (s : rS μ h0 H0 h H) (hl : rl h.1.length ls) (hs : rl h.1.length st) : Q (am_x_castore nx cl rt none rk n ts cv cj ls st h) (am_x_castore nx' cl' rt' none rk n ts cv cj (ls.map (rv μ)) (st.map (rv μ)) H) := by
  unfold am_x_castore
  refine r_aii C.1 hs (fun a x v r ha hr => r_if (by rw [s.1.kd, s.1.ln]) (fun hc => ?_) (fun _ => C.1 _))
  exact C.2.1 _ _ _ _ _ (s.sI C.2.2.2.2 ha (by rw [hc.1]; decide) _ _) hl hr
theorem r_x_aastore (C : rC μ h0 H0 Q nx nx' cl cl' rt rt') (s : rS μ h0 H0 h H) (hl : rl h.1.length ls) (hs : rl h.1.length st) : Q (am_x_aastore nx cl rt none rk n ts cv cj ls st h) (am_x_aastore nx' cl' rt' none rk n ts cv cj (ls.map (rv μ)) (st.map (rv μ)) H) := by
  unfold am_x_aastore
  refine r_air C.1 hs (fun a x v r ha hv hr => r_if (by rw [s.1.kd, s.1.ln]) (fun hc => ?_) (fun _ => C.1 _))
  have h9 : am_kd h a ≠ 9 := by rw [hc.1]; decide
  refine r_oe (fun _ => C.2.1 _ _ _ _ _ (s.sR C.2.2.2.2 ha h9 _ none (fun b e => by cases e)) hl hr) (fun b e => r_if (by rw [s.1.kd]) (fun _ => ?_) (fun _ => C.1 _))
  exact C.2.1 _ _ _ _ _ (s.sR C.2.2.2.2 ha h9 _ (some b) (fun b' e' => by cases e'; exact hv b e)) hl hr
theorem r_x_inv (C : rC μ h0 H0 Q nx nx' cl cl' rt rt') (s : rS μ h0 H0 h H) (hl : rl h.1.length ls) (hs : rl h.1.length st) : Q (am_x_inv nx cl rt none rk n ts cv cj ls st h) (am_x_inv nx' cl' rt' none rk n ts cv cj (ls.map (rv μ)) (st.map (rv μ)) H) := by
  unfold am_x_inv
  unfold am_inv
  split
  · rename_i mi na rk nL
    have e := rv_pop (μ := μ) na st []
    rw [List.map_nil] at e
    rw [e]
    split
    · rename_i as r ep
      have w := rl_pop na st [] _ ep hs rl_nil
      rw [ep]
      refine r_if (by rw [rv_w8, rv_pad, List.length_map]) (fun _ => ?_) (fun _ => C.1 _)
      exact C.2.2.1 _ _ _ _ _ _ _ _ _ s w.1 hl w.2
    · exact C.1 _
  · rename_i mi na rk nL rc
    have e := rv_pop (μ := μ) na st []
    rw [List.map_nil] at e
    rw [e]
    split
    · rename_i as b r ep
      have w := rl_pop na st [] _ ep hs rl_nil
      rw [ep]
      refine r_if (by rw [s.1.kd]) (fun _ => r_if (by rw [rv_w8, show (Value.ref (μ b) :: as.map (rv μ)) = (Value.ref b :: as).map (rv μ) from rfl, rv_pad, List.length_map]) (fun _ => ?_) (fun _ => C.1 _)) (fun _ => C.1 _)
      exact C.2.2.1 _ _ _ _ _ _ _ _ _ s (rl_cons w.2.hd w.1) hl w.2.tl
    · exact C.1 _
  · split
    · rename_i a r
      refine r_if (by rw [rv_w8]) (fun _ => ?_) (fun _ => C.1 _)
      exact C.2.1 _ _ _ _ _ s hl hs.tl
    · exact C.1 _
  · split
    · rename_i c dp d sp a r
      refine r_if (by rw [s.1.kd, s.1.kd, s.1.ln, s.1.ln, rv_w8]) (fun hc => ?_) (fun _ => C.1 _)
      have ha := hs.tl.tl.tl.tl.hd _ rfl
      have hd := hs.tl.tl.hd _ rfl
      rw [(s.1.2.2.2.2.1 a ha).1, (s.1.2.2.2.2.1 d hd).1]
      exact C.2.1 _ _ _ _ _ (s.rI C.2.2.2.2 hd (by rw [hc.2.1]; decide) _) hl hs.tl.tl.tl.tl.tl
    · exact C.1 _
  · exact C.1 _
theorem r_x_ireturn (C : rC μ h0 H0 Q nx nx' cl cl' rt rt') (s : rS μ h0 H0 h H) (hl : rl h.1.length ls) (hs : rl h.1.length st) : Q (am_x_ireturn nx cl rt none rk n ts cv cj ls st h) (am_x_ireturn nx' cl' rt' none rk n ts cv cj (ls.map (rv μ)) (st.map (rv μ)) H) := by
  unfold am_x_ireturn
  split
  · rename_i x
    split
    · exact C.2.2.2.1 (some (.int x)) _ _ s (fun w e => by cases e; exact rok_i)
    · exact r_if Iff.rfl (fun _ => C.2.2.2.1 (some (.int x)) _ _ s (fun w e => by cases e; exact rok_i)) (fun _ => C.1 _)
    · exact C.1 _
  · exact C.1 _
theorem r_x_lreturn (C : rC μ h0 H0 Q nx nx' cl cl' rt rt') (s : rS μ h0 H0 h H) (hl : rl h.1.length ls) (hs : rl h.1.length st) : Q (am_x_lreturn nx cl rt none rk n ts cv cj ls st h) (am_x_lreturn nx' cl' rt' none rk n ts cv cj (ls.map (rv μ)) (st.map (rv μ)) H) := by
  unfold am_x_lreturn
  split
  · rename_i x
    split
    · exact C.2.2.2.1 (some (.long x)) _ _ s (fun w e => by cases e; exact rok_l)
    · exact C.1 _
  · exact C.1 _
theorem r_x_areturn (C : rC μ h0 H0 Q nx nx' cl cl' rt rt') (s : rS μ h0 H0 h H) (hl : rl h.1.length ls) (hs : rl h.1.length st) : Q (am_x_areturn nx cl rt none rk n ts cv cj ls st h) (am_x_areturn nx' cl' rt' none rk n ts cv cj (ls.map (rv μ)) (st.map (rv μ)) H) := by
  unfold am_x_areturn
  split
  · rename_i a
    split
    · exact C.2.2.2.1 (some (.ref a)) _ _ s (fun w e => by cases e; exact hs.hd)
    · exact C.1 _
  · exact C.1 _
theorem r_x_return_ (C : rC μ h0 H0 Q nx nx' cl cl' rt rt') (s : rS μ h0 H0 h H) (hl : rl h.1.length ls) (hs : rl h.1.length st) : Q (am_x_return_ nx cl rt none rk n ts cv cj ls st h) (am_x_return_ nx' cl' rt' none rk n ts cv cj (ls.map (rv μ)) (st.map (rv μ)) H) := by
  unfold am_x_return_
  split
  · split
    · exact C.2.2.2.1 none _ _ s (fun w e => by cases e)
    · exact C.1 _
  · exact C.1 _
theorem r_x_no (C : rC μ h0 H0 Q nx nx' cl cl' rt rt') (s : rS μ h0 H0 h H) (hl : rl h.1.length ls) (hs : rl h.1.length st) : Q (am_x_no nx cl rt none rk n ts cv cj ls st h) (am_x_no nx' cl' rt' none rk n ts cv cj (ls.map (rv μ)) (st.map (rv μ)) H) := by
  unfold am_x_no
  exact C.1 _
set_option maxHeartbeats 4000000 in
theorem r_exe (C : rC μ h0 H0 Q nx nx' cl cl' rt rt') (s : rS μ h0 H0 h H) (hl : rl h.1.length ls) (hs : rl h.1.length st) {i : Instr} (h9 : (∃ k, i = .putfield k) → ts.head? ≠ some 9) : Q (am_exe nx cl rt none rk i n ts cv cj ls st h) (am_exe nx' cl' rt' none rk i n ts cv cj (ls.map (rv μ)) (st.map (rv μ)) H) := by
  unfold am_exe
  cases i with
  | iconst k0 => exact r_x_cI (rk := rk) (n := n) (ts := ts) (cv := cv) (cj := cj) C s hl hs
  | bipush k0 => exact r_x_cI (rk := rk) (n := n) (ts := ts) (cv := cv) (cj := cj) C s hl hs
  | sipush k0 => exact r_x_cI (rk := rk) (n := n) (ts := ts) (cv := cv) (cj := cj) C s hl hs
  | ldc k0 => exact r_x_cI (rk := rk) (n := n) (ts := ts) (cv := cv) (cj := cj) C s hl hs
  | ldc2_w k0 => exact r_x_cJ (rk := rk) (n := n) (ts := ts) (cv := cv) (cj := cj) C s hl hs
  | lconst k0 => exact r_x_cJ (rk := rk) (n := n) (ts := ts) (cv := cv) (cj := cj) C s hl hs
  | aconst_null => exact r_x_aconst_null (rk := rk) (n := n) (ts := ts) (cv := cv) (cj := cj) C s hl hs
  | iload k0 => exact r_x_iload (rk := rk) (n := n) (ts := ts) (cv := cv) (cj := cj) C s hl hs
  | iload_n k0 => exact r_x_iload (rk := rk) (n := n) (ts := ts) (cv := cv) (cj := cj) C s hl hs
  | lload k0 => exact r_x_lload (rk := rk) (n := n) (ts := ts) (cv := cv) (cj := cj) C s hl hs
  | lload_n k0 => exact r_x_lload (rk := rk) (n := n) (ts := ts) (cv := cv) (cj := cj) C s hl hs
  | aload k0 => exact r_x_aload (rk := rk) (n := n) (ts := ts) (cv := cv) (cj := cj) C s hl hs
  | aload_n k0 => exact r_x_aload (rk := rk) (n := n) (ts := ts) (cv := cv) (cj := cj) C s hl hs
  | istore k0 => exact r_x_istore (rk := rk) (n := n) (ts := ts) (cv := cv) (cj := cj) C s hl hs
  | istore_n k0 => exact r_x_istore (rk := rk) (n := n) (ts := ts) (cv := cv) (cj := cj) C s hl hs
  | lstore k0 => exact r_x_lstore (rk := rk) (n := n) (ts := ts) (cv := cv) (cj := cj) C s hl hs
  | lstore_n k0 => exact r_x_lstore (rk := rk) (n := n) (ts := ts) (cv := cv) (cj := cj) C s hl hs
  | astore k0 => exact r_x_astore (rk := rk) (n := n) (ts := ts) (cv := cv) (cj := cj) C s hl hs
  | astore_n k0 => exact r_x_astore (rk := rk) (n := n) (ts := ts) (cv := cv) (cj := cj) C s hl hs
  | iinc k0 z => exact r_x_iinc (rk := rk) (n := n) (ts := ts) (cv := cv) (cj := cj) C s hl hs
  | iadd => exact r_x_iadd (rk := rk) (n := n) (ts := ts) (cv := cv) (cj := cj) C s hl hs
  | isub => exact r_x_isub (rk := rk) (n := n) (ts := ts) (cv := cv) (cj := cj) C s hl hs
  | imul => exact r_x_imul (rk := rk) (n := n) (ts := ts) (cv := cv) (cj := cj) C s hl hs
  | iand => exact r_x_iand (rk := rk) (n := n) (ts := ts) (cv := cv) (cj := cj) C s hl hs
  | ior => exact r_x_ior (rk := rk) (n := n) (ts := ts) (cv := cv) (cj := cj) C s hl hs
  | ixor => exact r_x_ixor (rk := rk) (n := n) (ts := ts) (cv := cv) (cj := cj) C s hl hs
  | idiv => exact r_x_idiv (rk := rk) (n := n) (ts := ts) (cv := cv) (cj := cj) C s hl hs
  | irem => exact r_x_irem (rk := rk) (n := n) (ts := ts) (cv := cv) (cj := cj) C s hl hs
  | ishl => exact r_x_ishl (rk := rk) (n := n) (ts := ts) (cv := cv) (cj := cj) C s hl hs
  | ishr => exact r_x_ishr (rk := rk) (n := n) (ts := ts) (cv := cv) (cj := cj) C s hl hs
  | ladd => exact r_x_ladd (rk := rk) (n := n) (ts := ts) (cv := cv) (cj := cj) C s hl hs
  | lsub => exact r_x_lsub (rk := rk) (n := n) (ts := ts) (cv := cv) (cj := cj) C s hl hs
  | lmul => exact r_x_lmul (rk := rk) (n := n) (ts := ts) (cv := cv) (cj := cj) C s hl hs
  | land => exact r_x_land (rk := rk) (n := n) (ts := ts) (cv := cv) (cj := cj) C s hl hs
  | lor => exact r_x_lor (rk := rk) (n := n) (ts := ts) (cv := cv) (cj := cj) C s hl hs
  | lxor => exact r_x_lxor (rk := rk) (n := n) (ts := ts) (cv := cv) (cj := cj) C s hl hs
  | ldiv => exact r_x_ldiv (rk := rk) (n := n) (ts := ts) (cv := cv) (cj := cj) C s hl hs
  | lrem => exact r_x_lrem (rk := rk) (n := n) (ts := ts) (cv := cv) (cj := cj) C s hl hs
  | lneg => exact r_x_lneg (rk := rk) (n := n) (ts := ts) (cv := cv) (cj := cj) C s hl hs
  | lshl => exact r_x_lshl (rk := rk) (n := n) (ts := ts) (cv := cv) (cj := cj) C s hl hs
  | lushr => exact r_x_lushr (rk := rk) (n := n) (ts := ts) (cv := cv) (cj := cj) C s hl hs
  | lcmp => exact r_x_lcmp (rk := rk) (n := n) (ts := ts) (cv := cv) (cj := cj) C s hl hs
  | i2l => exact r_x_i2l (rk := rk) (n := n) (ts := ts) (cv := cv) (cj := cj) C s hl hs
  | l2i => exact r_x_l2i (rk := rk) (n := n) (ts := ts) (cv := cv) (cj := cj) C s hl hs
  | i2c => exact r_x_i2c (rk := rk) (n := n) (ts := ts) (cv := cv) (cj := cj) C s hl hs
  | dup => exact r_x_dup (rk := rk) (n := n) (ts := ts) (cv := cv) (cj := cj) C s hl hs
  | dup2 => exact r_x_dup2 (rk := rk) (n := n) (ts := ts) (cv := cv) (cj := cj) C s hl hs
  | ifnonnull k0 => exact r_x_ifnonnull (rk := rk) (n := n) (ts := ts) (cv := cv) (cj := cj) C s hl hs
  | goto k0 => exact r_x_goto (rk := rk) (n := n) (ts := ts) (cv := cv) (cj := cj) C s hl hs
  | tableswitch d lo hi offs => exact r_x_tableswitch (rk := rk) (n := n) (ts := ts) (cv := cv) (cj := cj) C s hl hs
  | getfield k0 => exact r_x_getfield (rk := rk) (n := n) (ts := ts) (cv := cv) (cj := cj) C s hl hs
  | putfield k0 => exact r_x_putfield (rk := rk) (n := n) (ts := ts) (cv := cv) (cj := cj) C s hl hs (fun z => h9 ⟨_, rfl⟩ z)
  | new k0 => exact r_x_new (rk := rk) (n := n) (ts := ts) (cv := cv) (cj := cj) C s hl hs
  | newarray k0 => exact r_x_newarray (rk := rk) (n := n) (ts := ts) (cv := cv) (cj := cj) C s hl hs
  | anewarray k0 => exact r_x_anewarray (rk := rk) (n := n) (ts := ts) (cv := cv) (cj := cj) C s hl hs
  | arraylength => exact r_x_arraylength (rk := rk) (n := n) (ts := ts) (cv := cv) (cj := cj) C s hl hs
  | iaload => exact r_x_iaload (rk := rk) (n := n) (ts := ts) (cv := cv) (cj := cj) C s hl hs
  | laload => exact r_x_laload (rk := rk) (n := n) (ts := ts) (cv := cv) (cj := cj) C s hl hs
  | caload => exact r_x_caload (rk := rk) (n := n) (ts := ts) (cv := cv) (cj := cj) C s hl hs
  | aaload => exact r_x_aaload (rk := rk) (n := n) (ts := ts) (cv := cv) (cj := cj) C s hl hs
  | iastore => exact r_x_iastore (rk := rk) (n := n) (ts := ts) (cv := cv) (cj := cj) C s hl hs
  | lastore => exact r_x_lastore (rk := rk) (n := n) (ts := ts) (cv := cv) (cj := cj) C s hl hs
  | castore => exact r_x_castore (rk := rk) (n := n) (ts := ts) (cv := cv) (cj := cj) C s hl hs
  | aastore => exact r_x_aastore (rk := rk) (n := n) (ts := ts) (cv := cv) (cj := cj) C s hl hs
  | invokevirtual k0 => exact r_x_inv (rk := rk) (n := n) (ts := ts) (cv := cv) (cj := cj) C s hl hs
  | invokespecial k0 => exact r_x_inv (rk := rk) (n := n) (ts := ts) (cv := cv) (cj := cj) C s hl hs
  | invokestatic k0 => exact r_x_inv (rk := rk) (n := n) (ts := ts) (cv := cv) (cj := cj) C s hl hs
  | ireturn => exact r_x_ireturn (rk := rk) (n := n) (ts := ts) (cv := cv) (cj := cj) C s hl hs
  | lreturn => exact r_x_lreturn (rk := rk) (n := n) (ts := ts) (cv := cv) (cj := cj) C s hl hs
  | areturn => exact r_x_areturn (rk := rk) (n := n) (ts := ts) (cv := cv) (cj := cj) C s hl hs
  | return_ => exact r_x_return_ (rk := rk) (n := n) (ts := ts) (cv := cv) (cj := cj) C s hl hs
  | ifCond cc off =>
    cases cc
    · exact r_x_ifCond_eq (rk := rk) (n := n) (ts := ts) (cv := cv) (cj := cj) C s hl hs
    · exact r_x_ifCond_ne (rk := rk) (n := n) (ts := ts) (cv := cv) (cj := cj) C s hl hs
    · exact r_x_ifCond_lt (rk := rk) (n := n) (ts := ts) (cv := cv) (cj := cj) C s hl hs
    · exact r_x_ifCond_ge (rk := rk) (n := n) (ts := ts) (cv := cv) (cj := cj) C s hl hs
    · exact r_x_ifCond_gt (rk := rk) (n := n) (ts := ts) (cv := cv) (cj := cj) C s hl hs
    · exact r_x_ifCond_le (rk := rk) (n := n) (ts := ts) (cv := cv) (cj := cj) C s hl hs
  | if_icmp cc off =>
    cases cc
    · exact r_x_if_icmp_eq (rk := rk) (n := n) (ts := ts) (cv := cv) (cj := cj) C s hl hs
    · exact r_x_if_icmp_ne (rk := rk) (n := n) (ts := ts) (cv := cv) (cj := cj) C s hl hs
    · exact r_x_if_icmp_lt (rk := rk) (n := n) (ts := ts) (cv := cv) (cj := cj) C s hl hs
    · exact r_x_if_icmp_ge (rk := rk) (n := n) (ts := ts) (cv := cv) (cj := cj) C s hl hs
    · exact r_x_if_icmp_gt (rk := rk) (n := n) (ts := ts) (cv := cv) (cj := cj) C s hl hs
    · exact r_x_if_icmp_le (rk := rk) (n := n) (ts := ts) (cv := cv) (cj := cj) C s hl hs
  | _ => exact C.1 _
end ops
/-- the code lays no field into a script -/
def rq (q : AE) : Bool := match q.2.1 with
  | .putfield _ => decide (q.2.2.2.1.head? ≠ some 9)
  | _ => true
theorem rq_of {q : AE} (h : rq q = true) : (∃ k, q.2.1 = .putfield k) → q.2.2.2.1.head? ≠ some 9 := by
  rintro ⟨k, e⟩
  unfold rq at h
  rw [e] at h
  exact of_decide_eq_true h
theorem am_fetch_mem : ∀ (l : List AE) (pc : Nat) (q : AE), am_fetch l pc = some q → q ∈ l
  | [], _, _, e => by cases e
  | a :: r, pc, q, e => by
    unfold am_fetch at e
    cases hb : Nat.beq a.1 pc
    · rw [hb] at e
      exact List.mem_cons_of_mem _ (am_fetch_mem r pc q e)
    · rw [hb] at e
      cases e
      exact List.mem_cons_self
theorem rS.le {μ : Nat → Nat} {h0 H0 h H : AH} (s : rS μ h0 H0 h H) : h0.1.length ≤ h.1.length := by
  obtain ⟨l, e, -⟩ := s.2.1
  rw [e, List.length_append]
  omega
theorem r_bd {rk : Nat} {a : AR} {f : List Value → AH → AR} {r : Option Value × AH} (e : am_bd rk a f = some r) : ∃ x, a = some x ∧ f x.1.toList x.2 = some r ∧ ∀ (μ : Nat → Nat) (H : AH) (f' : List Value → AH → AR), am_bd rk (some (x.1.map (rv μ), H)) f' = f' (x.1.map (rv μ)).toList H := by
  unfold am_bd at e
  split at e
  · unfold am_bV at e
    split at e
    · exact ⟨_, rfl, e, fun _ _ _ => rfl⟩
    · cases e
  · unfold am_bI at e
    split at e
    · exact ⟨_, rfl, e, fun _ _ _ => rfl⟩
    · cases e
  · unfold am_bI at e
    split at e
    · exact ⟨_, rfl, e, fun _ _ _ => rfl⟩
    · cases e
  · unfold am_bJ at e
    split at e
    · exact ⟨_, rfl, e, fun _ _ _ => rfl⟩
    · cases e
  · unfold am_bA at e
    split at e
    · exact ⟨_, rfl, e, fun _ _ _ => rfl⟩
    · cases e
  · cases e
/-- what a run comes to, and what it comes to in the other place -/
def rQ (μ : Nat → Nat) (h0 H0 : AH) (m : Nat) (a b : AR) : Prop := ∀ r, a = some r → ∃ H1, b = some (r.1.map (rv μ), H1) ∧ rS μ h0 H0 r.2 H1 ∧ (∀ v, r.1 = some v → rok r.2.1.length v) ∧ m ≤ r.2.1.length
theorem r_run {M : Nat → AMe} (hM : ∀ mi q, q ∈ (M mi).1 → rq q = true) {μ : Nat → Nat} {h0 H0 : AH} (q0 : ∀ i, μ (h0.1.length + i) = H0.1.length + i) : ∀ (n mi pc : Nat) (ls st : List Value) (h H : AH), rS μ h0 H0 h H → rl h.1.length ls → rl h.1.length st → rQ μ h0 H0 h.1.length (am_runP M n mi pc ls st h) (am_runP M n mi pc (ls.map (rv μ)) (st.map (rv μ)) H)
  | 0, _, _, _, _, _, _, _, _, _ => fun r hr => by cases hr
  | n + 1, mi, pc, ls, st, h, H, s, hl, hs => by
    unfold am_runP
    split
    · exact fun r hr => by cases hr
    · rename_i q hq
      have hmono : ∀ {x : AR} {y : AR} {a b : Nat}, a ≤ b → rQ μ h0 H0 b x y → rQ μ h0 H0 a x y := fun hab k r hr => by
        obtain ⟨H1, e1, e2, e3, e4⟩ := k r hr
        exact ⟨H1, e1, e2, e3, Nat.le_trans hab e4⟩
      have key := r_exe (μ := μ) (h := h) (H := H) (h0 := h0) (H0 := H0) (ls := ls) (st := st) (Q := rQ μ h0 H0 0)
        (nx := fun pc ls st h => am_runP M n mi pc (am_fg (M mi).2.2.2 pc ls) st h) (nx' := fun pc ls st h => am_runP M n mi pc (am_fg (M mi).2.2.2 pc ls) st h)
        (cl := fun mi' rk nL as pc ls st h => am_bd rk (am_runP M n mi' 0 (am_entry nL as) [] h) fun vs h => am_runP M n mi pc (am_fg (M mi).2.2.2 pc ls) (vs ++ st) h)
        (cl' := fun mi' rk nL as pc ls st h => am_bd rk (am_runP M n mi' 0 (am_entry nL as) [] h) fun vs h => am_runP M n mi pc (am_fg (M mi).2.2.2 pc ls) (vs ++ st) h)
        (rt := fun v h => some (v, h)) (rt' := fun v h => some (v, h)) (rk := (M mi).2.2.1) (n := q.2.2.1) (ts := q.2.2.2.1) (cv := q.2.2.2.2.1) (cj := q.2.2.2.2.2) (i := q.2.1)
        ⟨fun b r hr => (by cases hr), fun pc ls st h H s hl hs => (by
          dsimp only
          rw [rv_fg]
          exact hmono (Nat.zero_le _) (r_run hM q0 n mi pc _ st h H s (rl_fg _ _ _ hl) hs)), fun mi' rk nL as pc ls st h H s ha hl hs => (by
          intro r hr
          dsimp only at hr ⊢
          obtain ⟨x, e1, e2, e4⟩ := r_bd hr
          obtain ⟨H1, k1, k2, k3, k4⟩ := r_run hM q0 n mi' 0 (am_entry nL as) [] h H s (rl_entry ha) rl_nil x e1
          have hv : rl x.2.1.length x.1.toList := fun v hv => by
            cases hx : x.1 with
            | none => rw [hx] at hv; cases hv
            | some w =>
              rw [hx] at hv
              rcases List.mem_cons.mp hv with rfl | z
              · exact k3 _ hx
              · cases z
          obtain ⟨H2, l1, l2, l3, l4⟩ := r_run hM q0 n mi pc _ _ x.2 H1 k2 (rl_fg (M mi).2.2.2 pc ls (hl.m k4)) (hv.app (hs.m k4)) r e2
          refine ⟨H2, ?_, l2, l3, Nat.zero_le _⟩
          rw [rv_entry, show ([] : List Value) = ([] : List Value).map (rv μ) from rfl, k1]
          rw [e4, rv_fg, show (x.1.map (rv μ)).toList = x.1.toList.map (rv μ) by cases x.1 <;> rfl, ← List.map_append]
          exact l1), fun v h H s hv r hr => (by
          cases hr
          exact ⟨H, rfl, s, hv, Nat.zero_le _⟩), q0⟩ s hl hs (rq_of (hM mi q (am_fetch_mem _ _ _ hq)))
      intro r hr
      obtain ⟨H1, e1, e2, e3, -⟩ := key r hr
      exact ⟨H1, e1, e2, e3, (am_run_gr (M := M) (n + 1) mi pc ls st h r (by unfold am_runP; rw [hq]; exact hr)).1⟩

theorem rq_all : ∀ mi q, q ∈ (am_M mi).1 → rq q = true := by
  have key : ∀ (l : List AMe) (j : Nat), l.all (fun m => m.1.all rq) = true → ∀ q, q ∈ (l.getD j ([], 0, 9, [])).1 → rq q = true := fun l j h q hq => by
    rw [List.getD_eq_getElem?_getD] at hq
    cases e : l[j]? with
    | none => rw [e] at hq; cases hq
    | some m =>
      rw [e] at hq
      have h1 := List.all_eq_true.mp h m (List.mem_of_getElem? e)
      exact List.all_eq_true.mp h1 q hq
  intro mi q
  unfold am_M
  cases Nat.blt mi 16 <;> simp only [cond_true, cond_false]
  rotate_left
  · exact key am_Ms0 _ (by decide +kernel) q
  cases Nat.blt mi 32 <;> simp only [cond_true, cond_false]
  rotate_left
  · exact key am_Ms1 _ (by decide +kernel) q
  cases Nat.blt mi 48 <;> simp only [cond_true, cond_false]
  rotate_left
  · exact key am_Ms2 _ (by decide +kernel) q
  cases Nat.blt mi 64 <;> simp only [cond_true, cond_false]
  rotate_left
  · exact key am_Ms3 _ (by decide +kernel) q
  cases Nat.blt mi 80 <;> simp only [cond_true, cond_false]
  rotate_left
  · exact key am_Ms4 _ (by decide +kernel) q
  cases Nat.blt mi 96 <;> simp only [cond_true, cond_false]
  rotate_left
  · exact key am_Ms5 _ (by decide +kernel) q
  cases Nat.blt mi 112 <;> simp only [cond_true, cond_false]
  rotate_left
  · exact key am_Ms6 _ (by decide +kernel) q
  cases Nat.blt mi 128 <;> simp only [cond_true, cond_false]
  rotate_left
  · exact key am_Ms7 _ (by decide +kernel) q
  cases Nat.blt mi 144 <;> simp only [cond_true, cond_false]
  rotate_left
  · exact key am_Ms8 _ (by decide +kernel) q
  cases Nat.blt mi 160 <;> simp only [cond_true, cond_false]
  rotate_left
  · exact key am_Ms9 _ (by decide +kernel) q
  cases Nat.blt mi 176 <;> simp only [cond_true, cond_false]
  rotate_left
  · exact key am_Ms10 _ (by decide +kernel) q
  · exact fun h => by cases h
theorem rH.S {μ : Nat → Nat} {h H : AH} (r : rH μ h H) : rS μ h H h H := ⟨r, ⟨[], by simp⟩, fun _ _ _ => ⟨rfl, rfl, rfl⟩⟩
/-- A CALL in another place -/
theorem r_ev {μ : Nat → Nat} {h H h1 : AH} (r : rH μ h H) {mi : Nat} {ls : List Value} (hl : rl h.1.length ls) {v : Option Value} (e : am_ev mi 0 ls [] h = some (v, h1)) : ∃ H1, am_ev mi 0 (ls.map (rv μ)) [] H = some (v.map (rv μ), H1) ∧ rS μ h H h1 H1 := by
  obtain ⟨n, hn⟩ := am_ev_iff.mp e
  obtain ⟨H1, e1, e2, -, -⟩ := r_run rq_all r.1 n mi 0 ls [] h H r.S hl rl_nil (v, h1) hn
  exact ⟨H1, am_ev_iff.mpr ⟨n, e1⟩, e2⟩
