theorem pk_us {f : Nat → Int32} {k : Nat} {x : Int32} : upd f k x k = x := if_pos rfl
theorem pk_un {f : Nat → Int32} {k j : Nat} {x : Int32} (h : j ≠ k) : upd f k x j = f j := if_neg h
theorem pk_sub {a b : Nat} (h : b ≤ a) : nI a - nI b = nI (a - b) := by
  obtain ⟨c, rfl⟩ : ∃ c, a = c + b := ⟨a - b, by omega⟩
  rw [← nI_add, Int32.add_sub_cancel, Nat.add_sub_cancel]
theorem pk_mul (a b : Nat) : nI a * nI b = nI (a * b) := (Int32.ofNat_mul a b).symm
/-- a place of the square -/
def mr_pl (p : Int32) : Prop := ¬ p < 0 ∧ ¬ 16 ≤ p
/-- what is known of each message: places, and a length of at most five -/
def mr_ok (c : Nat) (so go le : Nat → Int32) : Prop := ∀ i, i < c → mr_pl (so i) ∧ mr_pl (go i) ∧ ∃ l, l ≤ 5 ∧ le i = nI l
/-- both sides hold the same draft, the same messages in the same order, and the same count of crossings -/
def i_Rel (_ : Nat) (u : SX) (v : SY) : Prop := ∃ (d c : Nat) (x : Int32) (dw so go le th wo : Nat → Int32), u = (nI d, nI c, x, dw, so, go, le, th, wo) ∧ v = (nI d, nI c, x, dw, so, go, le, wo, th) ∧ d ≤ 5 ∧ c ≤ 20 ∧ mr_ok c so go le
theorem i_up {k : Nat} {u : SX} {v : SY} (h : i_Rel k u v) : i_Rel (k + 4) u v := h
theorem i_vc0 : wpX_init (fun u => wpY_init (fun v => i_Rel 0 u v)) :=
  ⟨0, 0, 0, _, _, _, _, _, _, rfl, rfl, Nat.zero_le _, Nat.zero_le _, fun i h => absurd h (Nat.not_lt_zero i)⟩
theorem mr_mk {k d c : Nat} {x : Int32} {dw so go le th wo : Nat → Int32} (hd : d ≤ 5) (hc : c ≤ 20) (hm : mr_ok c so go le) : i_Rel k (nI d, nI c, x, dw, so, go, le, th, wo) (nI d, nI c, x, dw, so, go, le, wo, th) :=
  ⟨d, c, x, dw, so, go, le, th, wo, rfl, rfl, hd, hc, hm⟩
theorem mr_15 (p : Int32) : 15 < p ↔ 16 ≤ p := by
  rw [Int32.lt_iff_toInt_lt, Int32.le_iff_toInt_le, show (15 : Int32).toInt = 15 from by decide, show (16 : Int32).toInt = 16 from by decide]
  omega
theorem mr_2 (p : Int32) : 2 < p ↔ 3 ≤ p := by
  rw [Int32.lt_iff_toInt_lt, Int32.le_iff_toInt_le, show (2 : Int32).toInt = 2 from by decide, show (3 : Int32).toInt = 3 from by decide]
  omega
theorem mr_255 (p : Int32) : p ≤ 255 ↔ p < 256 := by
  rw [Int32.lt_iff_toInt_lt, Int32.le_iff_toInt_le, show (255 : Int32).toInt = 255 from by decide, show (256 : Int32).toInt = 256 from by decide]
  omega
theorem mr_50 (p : Int32) : p ≤ 50 ↔ ¬ 50 < p := by
  rw [Int32.lt_iff_toInt_lt, Int32.le_iff_toInt_le]
  omega
theorem mr_n1 : ¬ (1 : Int32) = 0 := by decide
theorem mr_n4 : ¬ (4 : Int32) = 0 := by decide
theorem mr_n16 : ¬ (16 : Int32) = 0 := by decide
theorem mr_pX {p : Int32} {post : Int32 → Prop} (h : mr_pl p) (hp : post 1) : wpX_isPlace post p := br_f h.1 (br_f h.2 hp)
theorem mr_pXn {p : Int32} {post : Int32 → Prop} (h : ¬ mr_pl p) (hp : post 0) : wpX_isPlace post p :=
  br_c (fun _ => hp) (fun a => br_c (fun _ => hp) (fun b => absurd ⟨a, b⟩ h))
theorem mr_pY {p : Int32} {post : Int32 → Prop} {u : SY} (h : mr_pl p) (hp : post 1) : wpY_place post u p := by
  obtain ⟨d, c, x, dw, so, go, le, wo, th⟩ := u
  exact br_f h.1 (br_f (fun z => h.2 ((mr_15 p).mp z)) hp)
theorem mr_pYn {p : Int32} {post : Int32 → Prop} {u : SY} (h : ¬ mr_pl p) (hp : post 0) : wpY_place post u p := by
  obtain ⟨d, c, x, dw, so, go, le, wo, th⟩ := u
  exact br_c (fun _ => hp) (fun a => br_c (fun _ => hp) (fun b => absurd ⟨a, fun z => b ((mr_15 p).mpr z)⟩ h))
/-- a branch over a value that is chosen by the same condition -/
theorem mr_if {c A B : Prop} [Decidable c] {P : Int32 → Prop} {a b : Int32} (f : P a → A) (g : P b → B) (h : P (if c then a else b)) : (c → A) ∧ (¬ c → B) :=
  ⟨fun z => f (by rwa [if_pos z] at h), fun z => g (by rwa [if_neg z] at h)⟩
theorem i_vc_write {k : Nat} {u : SX} {v : SY} (I : i_Rel k u v) (hk : k + 4 ≤ 2048) (v1 : Int32) : wpX_write (fun r u' => wpY_write (fun r' v' => r' = r ∧ i_Rel (k + 4) u' v') v v1) u v1 := by
  obtain ⟨d, c, x, dw, so, go, le, th, wo, rfl, rfl, hd, hc, hm⟩ := I
  by_cases h : d < 5
  · have hX : nI d < 5 := nI_lt (b := 5) h (by decide)
    have hi : vp_in (nI d) 5 := vp_in_nI h (by decide)
    refine br_t hX ⟨hi, fun a ea e ee => br_t hX ⟨hi, fun b eb f ef => ⟨ef.trans ee.symm, ?_⟩⟩⟩
    subst ea ee eb ef
    rw [nI_1]
    exact mr_mk (by omega) hc hm
  · have hX : ¬ nI d < 5 := nI_nlt (b := 5) (by omega) (by omega)
    exact br_f hX (br_f hX ⟨rfl, mr_mk hd hc hm⟩)
theorem i_vc_wipe {k : Nat} {u : SX} {v : SY} (I : i_Rel k u v) (hk : k + 4 ≤ 2048) : wpX_wipe (fun r u' => wpY_wipe (fun r' v' => r' = r ∧ i_Rel (k + 4) u' v') v) u := by
  obtain ⟨d, c, x, dw, so, go, le, th, wo, rfl, rfl, hd, hc, hm⟩ := I
  exact ⟨rfl, mr_mk (d := 0) (Nat.zero_le _) hc hm⟩
theorem i_vc_draft {k : Nat} {u : SX} {v : SY} (I : i_Rel k u v) (hk : k + 4 ≤ 2048) : wpX_draft (fun r => wpY_draft (fun r' => r' = r ∧ i_Rel (k + 4) u v) v) u := by
  obtain ⟨d, c, x, dw, so, go, le, th, wo, rfl, rfl, hd, hc, hm⟩ := I
  exact ⟨rfl, mr_mk hd hc hm⟩
theorem i_vc_crossings {k : Nat} {u : SX} {v : SY} (I : i_Rel k u v) (hk : k + 4 ≤ 2048) : wpX_crossings (fun r => wpY_crossings (fun r' => r' = r ∧ i_Rel (k + 4) u v) v) u := by
  obtain ⟨d, c, x, dw, so, go, le, th, wo, rfl, rfl, hd, hc, hm⟩ := I
  exact ⟨rfl, mr_mk hd hc hm⟩
theorem i_vc_messages {k : Nat} {u : SX} {v : SY} (I : i_Rel k u v) (hk : k + 4 ≤ 2048) : wpX_messages (fun r => wpY_messages (fun r' => r' = r ∧ i_Rel (k + 4) u v) v) u := by
  obtain ⟨d, c, x, dw, so, go, le, th, wo, rfl, rfl, hd, hc, hm⟩ := I
  exact ⟨rfl, mr_mk hd hc hm⟩
