section
theorem pk_us {f : Nat → Int32} {k : Nat} {x : Int32} : upd f k x k = x := if_pos rfl
theorem pk_un {f : Nat → Int32} {k j : Nat} {x : Int32} (h : j ≠ k) : upd f k x j = f j := if_neg h
theorem pk_sub {a b : Nat} (h : b ≤ a) : nI a - nI b = nI (a - b) := by
  obtain ⟨c, rfl⟩ : ∃ c, a = c + b := ⟨a - b, by omega⟩
  rw [← nI_add, Int32.add_sub_cancel, Nat.add_sub_cancel]
theorem pk_mul (a b : Nat) : nI a * nI b = nI (a * b) := (Int32.ofNat_mul a b).symm
/-- a place of the square -/
def mr_pl (p : Int32) : Prop := ¬ p < 0 ∧ ¬ 16 ≤ p
/-- what is known of each message: places, and a length of at most five -/
def mr_ok (c : Nat) (so go le : Nat → Int32) : Prop := ∀ i, i < c → mr_pl (so i) ∧ mr_pl (go i) ∧ ∃ l, l ≤ 5 ∧ le i = nI l
/-- both sides hold the same draft, the same messages in the same order, and the same count of crossings -/
def i_Rel (_ : Nat) (u : SX) (v : SY) : Prop := ∃ (d c : Nat) (x : Int32) (dw so go le th wo : Nat → Int32), u = (nI d, nI c, x, dw, so, go, le, th, wo) ∧ v = (nI d, nI c, x, dw, so, go, le, wo, th) ∧ d ≤ 5 ∧ c ≤ 20 ∧ mr_ok c so go le
theorem i_up {k : Nat} {u : SX} {v : SY} (h : i_Rel k u v) : i_Rel (k + 4) u v := h
theorem i_vc0 : wpX_init (fun u => wpY_init (fun v => i_Rel 0 u v)) :=
  ⟨0, 0, 0, _, _, _, _, _, _, rfl, rfl, Nat.zero_le _, Nat.zero_le _, fun i h => absurd h (Nat.not_lt_zero i)⟩
theorem mr_mk {k d c : Nat} {x : Int32} {dw so go le th wo : Nat → Int32} (hd : d ≤ 5) (hc : c ≤ 20) (hm : mr_ok c so go le) : i_Rel k (nI d, nI c, x, dw, so, go, le, th, wo) (nI d, nI c, x, dw, so, go, le, wo, th) :=
  ⟨d, c, x, dw, so, go, le, th, wo, rfl, rfl, hd, hc, hm⟩
theorem mr_15 (p : Int32) : 15 < p ↔ 16 ≤ p := by
  rw [Int32.lt_iff_toInt_lt, Int32.le_iff_toInt_le, show (15 : Int32).toInt = 15 from by decide, show (16 : Int32).toInt = 16 from by decide]
  omega
theorem mr_2 (p : Int32) : 2 < p ↔ 3 ≤ p := by
  rw [Int32.lt_iff_toInt_lt, Int32.le_iff_toInt_le, show (2 : Int32).toInt = 2 from by decide, show (3 : Int32).toInt = 3 from by decide]
  omega
theorem mr_255 (p : Int32) : p ≤ 255 ↔ p < 256 := by
  rw [Int32.lt_iff_toInt_lt, Int32.le_iff_toInt_le, show (255 : Int32).toInt = 255 from by decide, show (256 : Int32).toInt = 256 from by decide]
  omega
theorem mr_50 (p : Int32) : p ≤ 50 ↔ ¬ 50 < p := by
  rw [Int32.lt_iff_toInt_lt, Int32.le_iff_toInt_le]
  omega
theorem mr_n1 : ¬ (1 : Int32) = 0 := by decide
theorem mr_n4 : ¬ (4 : Int32) = 0 := by decide
theorem mr_n16 : ¬ (16 : Int32) = 0 := by decide
theorem mr_pX {p : Int32} {post : Int32 → Prop} (h : mr_pl p) (hp : post 1) : wpX_isPlace post p := br_f h.1 (br_f h.2 hp)
theorem mr_pXn {p : Int32} {post : Int32 → Prop} (h : ¬ mr_pl p) (hp : post 0) : wpX_isPlace post p :=
  br_c (fun _ => hp) (fun a => br_c (fun _ => hp) (fun b => absurd ⟨a, b⟩ h))
theorem mr_pY {p : Int32} {post : Int32 → Prop} {u : SY} (h : mr_pl p) (hp : post 1) : wpY_place post u p := by
  obtain ⟨d, c, x, dw, so, go, le, wo, th⟩ := u
  exact br_f h.1 (br_f (fun z => h.2 ((mr_15 p).mp z)) hp)
theorem mr_pYn {p : Int32} {post : Int32 → Prop} {u : SY} (h : ¬ mr_pl p) (hp : post 0) : wpY_place post u p := by
  obtain ⟨d, c, x, dw, so, go, le, wo, th⟩ := u
  exact br_c (fun _ => hp) (fun a => br_c (fun _ => hp) (fun b => absurd ⟨a, fun z => b ((mr_15 p).mpr z)⟩ h))
/-- a branch over a value that is chosen by the same condition -/
theorem mr_if {c A B : Prop} [Decidable c] {P : Int32 → Prop} {a b : Int32} (f : P a → A) (g : P b → B) (h : P (if c then a else b)) : (c → A) ∧ (¬ c → B) :=
  ⟨fun z => f (by rwa [if_pos z] at h), fun z => g (by rwa [if_neg z] at h)⟩
theorem i_vc_write {k : Nat} {u : SX} {v : SY} (I : i_Rel k u v) (hk : k + 4 ≤ 2048) (v1 : Int32) : wpX_write (fun r u' => wpY_write (fun r' v' => r' = r ∧ i_Rel (k + 4) u' v') v v1) u v1 := by
  obtain ⟨d, c, x, dw, so, go, le, th, wo, rfl, rfl, hd, hc, hm⟩ := I
  by_cases h : d < 5
  · have hX : nI d < 5 := nI_lt (b := 5) h (by decide)
    have hi : vp_in (nI d) 5 := vp_in_nI h (by decide)
    refine br_t hX ⟨hi, fun a ea e ee => br_t hX ⟨hi, fun b eb f ef => ⟨ef.trans ee.symm, ?_⟩⟩⟩
    subst ea ee eb ef
    rw [nI_1]
    exact mr_mk (by omega) hc hm
  · have hX : ¬ nI d < 5 := nI_nlt (b := 5) (by omega) (by omega)
    exact br_f hX (br_f hX ⟨rfl, mr_mk hd hc hm⟩)
theorem i_vc_wipe {k : Nat} {u : SX} {v : SY} (I : i_Rel k u v) (hk : k + 4 ≤ 2048) : wpX_wipe (fun r u' => wpY_wipe (fun r' v' => r' = r ∧ i_Rel (k + 4) u' v') v) u := by
  obtain ⟨d, c, x, dw, so, go, le, th, wo, rfl, rfl, hd, hc, hm⟩ := I
  exact ⟨rfl, mr_mk (d := 0) (Nat.zero_le _) hc hm⟩
theorem i_vc_draft {k : Nat} {u : SX} {v : SY} (I : i_Rel k u v) (hk : k + 4 ≤ 2048) : wpX_draft (fun r => wpY_draft (fun r' => r' = r ∧ i_Rel (k + 4) u v) v) u := by
  obtain ⟨d, c, x, dw, so, go, le, th, wo, rfl, rfl, hd, hc, hm⟩ := I
  exact ⟨rfl, mr_mk hd hc hm⟩
theorem i_vc_crossings {k : Nat} {u : SX} {v : SY} (I : i_Rel k u v) (hk : k + 4 ≤ 2048) : wpX_crossings (fun r => wpY_crossings (fun r' => r' = r ∧ i_Rel (k + 4) u v) v) u := by
  obtain ⟨d, c, x, dw, so, go, le, th, wo, rfl, rfl, hd, hc, hm⟩ := I
  exact ⟨rfl, mr_mk hd hc hm⟩
theorem i_vc_messages {k : Nat} {u : SX} {v : SY} (I : i_Rel k u v) (hk : k + 4 ≤ 2048) : wpX_messages (fun r => wpY_messages (fun r' => r' = r ∧ i_Rel (k + 4) u v) v) u := by
  obtain ⟨d, c, x, dw, so, go, le, th, wo, rfl, rfl, hd, hc, hm⟩ := I
  exact ⟨rfl, mr_mk hd hc hm⟩
end
section
/-- the lines between two places, as both sides count them -/
theorem mr_dist (a b : Int32) : ∃ r : Int32, (∀ post : Int32 → Prop, post r → wpX_linesBetween post a b) ∧ (∀ (post : Int32 → Prop) (u : SY), mr_pl a → mr_pl b → post r → wpY_distance post u a b) := by
  by_cases h1 : 0 ≤ (a - a / 4 * 4) - (b - b / 4 * 4)
  · by_cases h2 : 0 ≤ (a / 4) - (b / 4)
    · refine ⟨((a - a / 4 * 4) - (b - b / 4 * 4)) + ((a / 4) - (b / 4)), fun post hp => ⟨mr_n4, mr_n4, nm_e ⟨mr_n4, mr_n4, nm_e (br_t h1 (br_t h2 hp))⟩⟩, fun post u ha hb hp => ?_⟩
      obtain ⟨d, c, x, dw, so, go, le, wo, th⟩ := u
      unfold wpY_distance; dsimp only
      exact mr_pY ha (br_f mr_n1 (mr_pY hb (br_f mr_n1 ⟨mr_n4, mr_n4, br_t h1 ⟨mr_n4, mr_n4, br_t h2 hp⟩⟩)))
    · refine ⟨((a - a / 4 * 4) - (b - b / 4 * 4)) + (-((a / 4) - (b / 4))), fun post hp => ⟨mr_n4, mr_n4, nm_e ⟨mr_n4, mr_n4, nm_e (br_t h1 (br_f h2 hp))⟩⟩, fun post u ha hb hp => ?_⟩
      obtain ⟨d, c, x, dw, so, go, le, wo, th⟩ := u
      unfold wpY_distance; dsimp only
      exact mr_pY ha (br_f mr_n1 (mr_pY hb (br_f mr_n1 ⟨mr_n4, mr_n4, br_t h1 ⟨mr_n4, mr_n4, br_f h2 hp⟩⟩)))
  · by_cases h2 : 0 ≤ (a / 4) - (b / 4)
    · refine ⟨(-((a - a / 4 * 4) - (b - b / 4 * 4))) + ((a / 4) - (b / 4)), fun post hp => ⟨mr_n4, mr_n4, nm_e ⟨mr_n4, mr_n4, nm_e (br_f h1 (br_t h2 hp))⟩⟩, fun post u ha hb hp => ?_⟩
      obtain ⟨d, c, x, dw, so, go, le, wo, th⟩ := u
      unfold wpY_distance; dsimp only
      exact mr_pY ha (br_f mr_n1 (mr_pY hb (br_f mr_n1 ⟨mr_n4, mr_n4, br_f h1 ⟨mr_n4, mr_n4, br_t h2 hp⟩⟩)))
    · refine ⟨(-((a - a / 4 * 4) - (b - b / 4 * 4))) + (-((a / 4) - (b / 4))), fun post hp => ⟨mr_n4, mr_n4, nm_e ⟨mr_n4, mr_n4, nm_e (br_f h1 (br_f h2 hp))⟩⟩, fun post u ha hb hp => ?_⟩
      obtain ⟨d, c, x, dw, so, go, le, wo, th⟩ := u
      unfold wpY_distance; dsimp only
      exact mr_pY ha (br_f mr_n1 (mr_pY hb (br_f mr_n1 ⟨mr_n4, mr_n4, br_f h1 ⟨mr_n4, mr_n4, br_f h2 hp⟩⟩)))
theorem mr_distN {a b : Int32} (h : ¬ (mr_pl a ∧ mr_pl b)) (post : Int32 → Prop) (u : SY) (hp : post (-1)) : wpY_distance post u a b := by
  obtain ⟨d, c, x, dw, so, go, le, wo, th⟩ := u
  unfold wpY_distance; dsimp only
  by_cases ha : mr_pl a
  · exact mr_pY ha (br_f mr_n1 (mr_pYn (fun hb => h ⟨ha, hb⟩) (br_t rfl hp)))
  · exact mr_pYn ha (br_t rfl hp)
theorem i_vc_distance {k : Nat} {u : SX} {v : SY} (I : i_Rel k u v) (hk : k + 4 ≤ 2048) (v1 : Int32) (v2 : Int32) : wpX_distance (fun r => wpY_distance (fun r' => r' = r ∧ i_Rel (k + 4) u v) v v1 v2) u v1 v2 := by
  have J : i_Rel (k + 4) u v := i_up I
  obtain ⟨d, c, x, dw, so, go, le, th, wo, rfl, rfl, hd, hc, hm⟩ := I
  unfold wpX_distance; dsimp only
  by_cases h1 : mr_pl v1
  · refine mr_pX h1 (br_f mr_n1 ?_)
    by_cases h2 : mr_pl v2
    · obtain ⟨r, hX, hY⟩ := mr_dist v1 v2
      exact mr_pX h2 (br_f mr_n1 (hX _ (hY _ _ h1 h2 ⟨rfl, J⟩)))
    · exact mr_pXn h2 (br_t rfl (mr_distN (fun z => h2 z.2) _ _ ⟨rfl, J⟩))
  · exact mr_pXn h1 (br_t rfl (mr_distN (fun z => h1 z.1) _ _ ⟨rfl, J⟩))
/-- whether a line leads out of p0 in direction p1, as the class reckons -/
def mr_hl (p0 p1 : Int32) : Int32 :=
  if p1 < 0 then 0 else if 3 < p1 then 0 else if p1 = 0 then (if p0 / 4 ≤ 0 then 0 else 1) else if p1 = 1 then (if 3 ≤ p0 - p0 / 4 * 4 then 0 else 1) else if p1 = 2 then (if 3 ≤ p0 / 4 then 0 else 1) else if p1 = 3 then (if p0 - p0 / 4 * 4 ≤ 0 then 0 else 1) else 0
theorem mr_hlX {p0 p1 : Int32} {post : Int32 → Prop} (hp : post (mr_hl p0 p1)) : wpX_hasLine post p0 p1 :=
  ⟨mr_n4, nm_e ⟨mr_n4, nm_e (mr_if id (mr_if id (mr_if (mr_if id id) (mr_if (mr_if id id) (mr_if (mr_if id id) (mr_if (mr_if id id) (fun _ => trivial)))))) hp)⟩⟩
/-- the same, as the reference reckons -/
def mr_sq (a b : Int32) : Int32 := if a < 0 then 0 else if 3 < a then 0 else if b < 0 then 0 else if 3 < b then 0 else 1
def mr_hc (p0 p1 row : Int32) : Int32 :=
  if p1 = 1 then mr_sq row (p0 - p0 / 4 * 4 + 1) else if p1 = 3 then mr_sq row (p0 - p0 / 4 * 4 + (-1)) else mr_sq row (p0 - p0 / 4 * 4 + 0)
def mr_hy (p0 p1 : Int32) : Int32 :=
  if p1 = 0 then mr_hc p0 p1 (p0 / 4 + (-1)) else if p1 = 2 then mr_hc p0 p1 (p0 / 4 + 1) else mr_hc p0 p1 (p0 / 4 + 0)
section
variable (d c x : Int32) (dw so go le wo th : Nat → Int32)
theorem mr_sqY {a z0 z1 : Int32} {post : Int32 → Prop} (hp : post (mr_sq a (z1 + z0))) : wY_hold_75 post a z0 z1 d c x dw so go le wo th :=
  nm_e (mr_if id (mr_if id (mr_if id (mr_if id id))) hp)
theorem mr_hcY {p0 p1 z0 z1 : Int32} {post : Int32 → Prop} (hp : post (mr_hc p0 p1 (z1 + z0))) : wY_hold_50 post p0 p1 z0 z1 d c x dw so go le wo th :=
  nm_e ⟨mr_n4, mr_if (mr_sqY d c x dw so go le wo th) (mr_if (mr_sqY d c x dw so go le wo th) (mr_sqY d c x dw so go le wo th)) hp⟩
end
theorem mr_holdT : ∀ j : Fin 16, ∀ q : Fin 4, mr_hl (nI j.val) (nI q.val) = mr_hy (nI j.val) (nI q.val) := by decide +kernel
theorem mr_hold01 : ∀ j : Fin 16, ∀ q : Fin 4, mr_hl (nI j.val) (nI q.val) = 0 ∨ mr_hl (nI j.val) (nI q.val) = 1 := by decide +kernel
theorem mr_pl_of {p : Int32} (h : mr_pl p) : ∃ j : Nat, j < 16 ∧ p = nI j := by
  obtain ⟨j, hj, rfl⟩ := nI_of h.1
  refine ⟨j, ?_, rfl⟩
  have h2 := h.2
  rw [show (16 : Int32) = nI 16 from rfl, nI_leI (by decide) hj] at h2
  omega
theorem i_vc_hold {k : Nat} {u : SX} {v : SY} (I : i_Rel k u v) (hk : k + 4 ≤ 2048) (v1 : Int32) (v2 : Int32) (v3 : Int32) : wpX_hold (fun r => wpY_hold (fun r' => r' = r ∧ i_Rel (k + 4) u v) v v1 v2 v3) u v1 v2 v3 := by
  have J : i_Rel (k + 4) u v := i_up I
  obtain ⟨d, c, x, dw, so, go, le, th, wo, rfl, rfl, hd, hc, hm⟩ := I
  unfold wpX_hold wpY_hold; dsimp only
  by_cases h1 : mr_pl v1
  · refine mr_pX h1 (br_f mr_n1 (br_c (fun a => ?_) (fun a => br_c (fun b => ?_) (fun b => mr_hlX ?_))))
    · exact mr_pY h1 (br_f mr_n1 (br_c (fun _ => ⟨rfl, J⟩) (fun _ => br_c (fun _ => ⟨rfl, J⟩) (fun _ => br_t a ⟨rfl, J⟩))))
    · exact mr_pY h1 (br_f mr_n1 (br_c (fun _ => ⟨rfl, J⟩) (fun _ => br_c (fun _ => ⟨rfl, J⟩) (fun _ => br_f a (br_f (fun z => (mr_50 v3).mp z b) ⟨rfl, J⟩)))))
    · by_cases e1 : v2 < 0
      · have e : mr_hl v1 v2 = 0 := if_pos e1
        rw [e]
        exact br_t rfl (mr_pY h1 (br_f mr_n1 (br_t e1 ⟨rfl, J⟩)))
      · by_cases e2 : 3 < v2
        · have e : mr_hl v1 v2 = 0 := (if_neg e1).trans (if_pos e2)
          rw [e]
          exact br_t rfl (mr_pY h1 (br_f mr_n1 (br_f e1 (br_t e2 ⟨rfl, J⟩))))
        · obtain ⟨j, hj, rfl⟩ := mr_pl_of h1
          obtain ⟨q, hq, rfl⟩ := nI_of e1
          have hq4 : q < 4 := by
            rw [show (3 : Int32) = nI 3 from rfl, nI_ltI (by decide) hq] at e2
            omega
          have T := mr_holdT ⟨j, hj⟩ ⟨q, hq4⟩
          have T2 := mr_hold01 ⟨j, hj⟩ ⟨q, hq4⟩
          dsimp only at T T2
          have HY : ∀ post : Int32 → Prop, post (mr_hy (nI j) (nI q)) → wpY_place (fun r_1 => (((r_1 = 0 → (post 0)) ∧ (¬ r_1 = 0 → (((nI q < 0 → (post 0)) ∧ (¬ nI q < 0 → (((3 < nI q → (post 0)) ∧ (¬ 3 < nI q → (((v3 < 0 → (post 0)) ∧ (¬ v3 < 0 → (((v3 ≤ 50 → (¬ (4 : Int32) = 0 ∧ (((nI q = 0 → (wY_hold_50 post (nI j) (nI q) (-1) (nI j / 4) (nI d) (nI c) x dw so go le wo th)) ∧ (¬ nI q = 0 → (((nI q = 2 → (wY_hold_50 post (nI j) (nI q) 1 (nI j / 4) (nI d) (nI c) x dw so go le wo th)) ∧ (¬ nI q = 2 → (wY_hold_50 post (nI j) (nI q) 0 (nI j / 4) (nI d) (nI c) x dw so go le wo th))))))))) ∧ (¬ v3 ≤ 50 → (post 0))))))))))))))))) (nI d, nI c, x, dw, so, go, le, wo, th) (nI j) := by
            intro post hp
            refine mr_pY h1 (br_f mr_n1 (br_f e1 (br_f e2 (br_f a (br_t ((mr_50 v3).mpr b) ⟨mr_n4, ?_⟩)))))
            exact mr_if (mr_hcY _ _ _ _ _ _ _ _ _) (mr_if (mr_hcY _ _ _ _ _ _ _ _ _) (mr_hcY _ _ _ _ _ _ _ _ _)) hp
          rcases T2 with T2 | T2
          · rw [T2]
            refine br_t rfl (HY (fun r' => r' = 0 ∧ i_Rel (k + 4) _ _) ⟨T.symm.trans T2, J⟩)
          · rw [T2]
            refine br_f mr_n1 (HY (fun r' => r' = 1 ∧ i_Rel (k + 4) _ _) ⟨T.symm.trans T2, J⟩)
  · exact mr_pXn h1 (br_t rfl (mr_pYn h1 (br_t rfl ⟨rfl, J⟩)))
section
variable (d x : Int32) (dw so go le th wo : Nat → Int32)
theorem mr_waiting {c : Nat} (hc : c ≤ 20) (s : Int32) : ∀ n m : Nat, m + n = c → ∀ f : Int32, ∃ r : Int32, (∀ post : Int32 → Prop, post r → wX_waiting_13 post s d (nI c) x dw so go le th wo (n + 1) f (nI m)) ∧ (∀ post : Int32 → Prop, wpY_place (fun p => (p = 0 → post (-1)) ∧ (¬ p = 0 → post r)) (d, nI c, x, dw, so, go, le, wo, th) s → wY_waiting_4 post s d (nI c) x dw so go le wo th (n + 1) f (nI m)) := by
  intro n
  induction n with
  | zero =>
    intro m hm f
    have h : nI c ≤ nI m := nI_le (by omega) (by omega)
    exact ⟨f, fun _ hp => br_t h hp, fun _ hp => br_t h hp⟩
  | succ n ih =>
    intro m hm f
    have h : ¬ nI c ≤ nI m := nI_ge (by omega) (by omega)
    have hi : vp_in (nI m) 20 := vp_in_nI (by omega) (by decide)
    by_cases t : th (nI m).toNatClampNeg = 0
    · by_cases g : so (nI m).toNatClampNeg = s
      · obtain ⟨r, hX, hY⟩ := ih (m + 1) (by omega) (f + 1)
        exact ⟨r, fun post hp => br_f h ⟨hi, br_t t ⟨hi, br_t g (nm_e (nm_r (nI_1 m) (hX post hp)))⟩⟩, fun post hp => br_f h ⟨hi, br_t g ⟨hi, br_t t (nm_e (nm_r (nI_1 m) (hY post hp)))⟩⟩⟩
      · obtain ⟨r, hX, hY⟩ := ih (m + 1) (by omega) f
        exact ⟨r, fun post hp => br_f h ⟨hi, br_t t ⟨hi, br_f g (nm_r (nI_1 m) (hX post hp))⟩⟩, fun post hp => br_f h ⟨hi, br_f g (nm_r (nI_1 m) (hY post hp))⟩⟩
    · obtain ⟨r, hX, hY⟩ := ih (m + 1) (by omega) f
      refine ⟨r, fun post hp => br_f h ⟨hi, br_f t (nm_r (nI_1 m) (hX post hp))⟩, fun post hp => br_f h ⟨hi, br_c (fun _ => ⟨hi, br_f t (nm_r (nI_1 m) (hY post hp))⟩) (fun _ => nm_r (nI_1 m) (hY post hp))⟩⟩
theorem mr_held {c : Nat} (hc : c ≤ 20) (s : Int32) : ∀ n m : Nat, m + n = c → ∀ f : Int32, ∃ r : Int32, (∀ post : Int32 → Prop, post r → wX_held_13 post s d (nI c) x dw so go le th wo (n + 1) f (nI m)) ∧ (∀ post : Int32 → Prop, wpY_place (fun p => (p = 0 → post (-1)) ∧ (¬ p = 0 → post r)) (d, nI c, x, dw, so, go, le, wo, th) s → wY_held_4 post s d (nI c) x dw so go le wo th (n + 1) f (nI m)) := by
  intro n
  induction n with
  | zero =>
    intro m hm f
    have h : nI c ≤ nI m := nI_le (by omega) (by omega)
    exact ⟨f, fun _ hp => br_t h hp, fun _ hp => br_t h hp⟩
  | succ n ih =>
    intro m hm f
    have h : ¬ nI c ≤ nI m := nI_ge (by omega) (by omega)
    have hi : vp_in (nI m) 20 := vp_in_nI (by omega) (by decide)
    by_cases t : th (nI m).toNatClampNeg = 0
    · obtain ⟨r, hX, hY⟩ := ih (m + 1) (by omega) f
      exact ⟨r, fun post hp => br_f h ⟨hi, br_t t (nm_r (nI_1 m) (hX post hp))⟩, fun post hp => br_f h ⟨hi, br_t t (nm_r (nI_1 m) (hY post hp))⟩⟩
    · by_cases g : go (nI m).toNatClampNeg = s
      · obtain ⟨r, hX, hY⟩ := ih (m + 1) (by omega) (f + 1)
        exact ⟨r, fun post hp => br_f h ⟨hi, br_f t ⟨hi, br_t g (nm_e (nm_r (nI_1 m) (hX post hp)))⟩⟩, fun post hp => br_f h ⟨hi, br_f t ⟨hi, br_t g (nm_e (nm_r (nI_1 m) (hY post hp)))⟩⟩⟩
      · obtain ⟨r, hX, hY⟩ := ih (m + 1) (by omega) f
        exact ⟨r, fun post hp => br_f h ⟨hi, br_f t ⟨hi, br_f g (nm_r (nI_1 m) (hX post hp))⟩⟩, fun post hp => br_f h ⟨hi, br_f t ⟨hi, br_f g (nm_r (nI_1 m) (hY post hp))⟩⟩⟩
/-- whether the message at m is one of those from s that lie at g -/
def mr_is (m : Int32) (g s : Int32) : Prop := ¬ th m.toNatClampNeg = 0 ∧ go m.toNatClampNeg = g ∧ so m.toNatClampNeg = s
theorem mr_isX {c m g s : Int32} {post : Int32 → Prop} (hi : vp_in m 20) (h : mr_is so go th m g s) (hp : post 1) : wpX_hasArrived post (d, c, x, dw, so, go, le, th, wo) m g s :=
  ⟨hi, br_f h.1 ⟨hi, br_t h.2.1 ⟨hi, br_t h.2.2 hp⟩⟩⟩
theorem mr_isXn {c m g s : Int32} {post : Int32 → Prop} (hi : vp_in m 20) (h : ¬ mr_is so go th m g s) (hp : post 0) : wpX_hasArrived post (d, c, x, dw, so, go, le, th, wo) m g s :=
  ⟨hi, br_c (fun _ => hp) (fun a => ⟨hi, br_c (fun b => ⟨hi, br_c (fun e => absurd ⟨a, b, e⟩ h) (fun _ => hp)⟩) (fun _ => hp)⟩)⟩
theorem mr_isY {c m g s : Int32} {post : Int32 → Prop} (hi : vp_in m 20) (h : mr_is so go th m g s) (hp : post 1) : wpY_is post (d, c, x, dw, so, go, le, wo, th) m g s :=
  ⟨hi, br_f h.1 ⟨hi, br_t h.2.1 ⟨hi, br_t h.2.2 hp⟩⟩⟩
theorem mr_isYn {c m g s : Int32} {post : Int32 → Prop} (hi : vp_in m 20) (h : ¬ mr_is so go th m g s) (hp : post 0) : wpY_is post (d, c, x, dw, so, go, le, wo, th) m g s :=
  ⟨hi, br_c (fun _ => hp) (fun a => ⟨hi, br_c (fun b => ⟨hi, br_c (fun e => absurd ⟨a, b, e⟩ h) (fun _ => hp)⟩) (fun _ => hp)⟩)⟩
theorem mr_arrived {c : Nat} (hc : c ≤ 20) (g s : Int32) : ∀ n m : Nat, m + n = c → ∀ f : Int32, ∃ r : Int32, (∀ post : Int32 → Prop, post r → wX_arrived_21 post g s d (nI c) x dw so go le th wo (n + 1) f (nI m)) ∧ (∀ post : Int32 → Prop, wpY_place (fun p => (p = 0 → post (-1)) ∧ (¬ p = 0 → wpY_place (fun p => (p = 0 → post (-1)) ∧ (¬ p = 0 → post r)) (d, nI c, x, dw, so, go, le, wo, th) s)) (d, nI c, x, dw, so, go, le, wo, th) g → wY_arrived_5 post g s d (nI c) x dw so go le wo th (n + 1) f (nI m)) := by
  intro n
  induction n with
  | zero =>
    intro m hm f
    have h : nI c ≤ nI m := nI_le (by omega) (by omega)
    exact ⟨f, fun _ hp => br_t h hp, fun _ hp => br_t h hp⟩
  | succ n ih =>
    intro m hm f
    have h : ¬ nI c ≤ nI m := nI_ge (by omega) (by omega)
    have hi : vp_in (nI m) 20 := vp_in_nI (by omega) (by decide)
    by_cases t : mr_is so go th (nI m) g s
    · obtain ⟨r, hX, hY⟩ := ih (m + 1) (by omega) (f + 1)
      exact ⟨r, fun post hp => br_f h (mr_isX _ _ _ _ _ _ _ _ hi t (br_f mr_n1 (nm_e (nm_r (nI_1 m) (hX post hp))))), fun post hp => br_f h (mr_isY _ _ _ _ _ _ _ _ hi t (br_f mr_n1 (nm_e (nm_r (nI_1 m) (hY post hp)))))⟩
    · obtain ⟨r, hX, hY⟩ := ih (m + 1) (by omega) f
      exact ⟨r, fun post hp => br_f h (mr_isXn _ _ _ _ _ _ _ _ hi t (br_t rfl (nm_r (nI_1 m) (hX post hp)))), fun post hp => br_f h (mr_isYn _ _ _ _ _ _ _ _ hi t (br_t rfl (nm_r (nI_1 m) (hY post hp))))⟩
theorem mr_find {c : Nat} (hc : c ≤ 20) (g s i : Int32) : ∀ n m : Nat, m + n = c → ∀ f : Int32, ∃ r : Int32, (r = -1 ∨ ∃ j : Nat, j < c ∧ r = nI j) ∧ (∀ post : Int32 → Prop, post r → wX_find_6 post g s i d (nI c) x dw so go le th wo (n + 1) f (nI m)) ∧ (∀ post : Int32 → Prop, post r → wY_find_6 post g s i d (nI c) x dw so go le wo th (n + 1) f (nI m)) := by
  intro n
  induction n with
  | zero =>
    intro m hm f
    have h : nI c ≤ nI m := nI_le (by omega) (by omega)
    exact ⟨-1, .inl rfl, fun _ hp => br_t h hp, fun _ hp => br_t h hp⟩
  | succ n ih =>
    intro m hm f
    have h : ¬ nI c ≤ nI m := nI_ge (by omega) (by omega)
    have hi : vp_in (nI m) 20 := vp_in_nI (by omega) (by decide)
    by_cases t : mr_is so go th (nI m) g s
    · by_cases e : f = i
      · exact ⟨nI m, .inr ⟨m, by omega, rfl⟩, fun post hp => br_f h (mr_isX _ _ _ _ _ _ _ _ hi t (br_f mr_n1 (br_t e hp))), fun post hp => br_f h (mr_isY _ _ _ _ _ _ _ _ hi t (br_f mr_n1 (br_t e hp)))⟩
      · obtain ⟨r, hr, hX, hY⟩ := ih (m + 1) (by omega) (f + 1)
        exact ⟨r, hr, fun post hp => br_f h (mr_isX _ _ _ _ _ _ _ _ hi t (br_f mr_n1 (br_f e (nm_e (nm_r (nI_1 m) (hX post hp)))))), fun post hp => br_f h (mr_isY _ _ _ _ _ _ _ _ hi t (br_f mr_n1 (br_f e (nm_e (nm_r (nI_1 m) (hY post hp))))))⟩
    · obtain ⟨r, hr, hX, hY⟩ := ih (m + 1) (by omega) f
      exact ⟨r, hr, fun post hp => br_f h (mr_isXn _ _ _ _ _ _ _ _ hi t (br_t rfl (nm_r (nI_1 m) (hX post hp)))), fun post hp => br_f h (mr_isYn _ _ _ _ _ _ _ _ hi t (br_t rfl (nm_r (nI_1 m) (hY post hp))))⟩
theorem mr_fnd {c : Nat} (hc : c ≤ 20) (g s i : Int32) : ∃ r : Int32, (r = -1 ∨ ∃ j : Nat, j < c ∧ r = nI j) ∧ (∀ post : Int32 → Prop, post r → wpX_find post (d, nI c, x, dw, so, go, le, th, wo) g s i) ∧ (∀ post : Int32 → Prop, post r → wpY_find post (d, nI c, x, dw, so, go, le, wo, th) g s i) := by
  obtain ⟨r, hr, hX, hY⟩ := mr_find d x dw so go le th wo hc g s i c 0 (Nat.zero_add c) 0
  exact ⟨r, hr, fun post hp => ⟨_, hX post hp⟩, fun post hp => ⟨_, hY post hp⟩⟩
end
end
section
theorem i_vc_waiting {k : Nat} {u : SX} {v : SY} (I : i_Rel k u v) (hk : k + 4 ≤ 2048) (v1 : Int32) : wpX_waiting (fun r => wpY_waiting (fun r' => r' = r ∧ i_Rel (k + 4) u v) v v1) u v1 := by
  have J : i_Rel (k + 4) u v := i_up I
  obtain ⟨d, c, x, dw, so, go, le, th, wo, rfl, rfl, hd, hc, hm⟩ := I
  obtain ⟨r, hX, hY⟩ := mr_waiting (nI d) x dw so go le th wo hc v1 c 0 (Nat.zero_add c) 0
  unfold wpX_waiting; dsimp only
  by_cases h : mr_pl v1
  · exact mr_pX h (br_f mr_n1 ⟨_, hX _ ⟨_, hY _ (mr_pY h (br_f mr_n1 ⟨rfl, J⟩))⟩⟩)
  · exact mr_pXn h (br_t rfl ⟨_, hY _ (mr_pYn h (br_t rfl ⟨rfl, J⟩))⟩)
theorem i_vc_held {k : Nat} {u : SX} {v : SY} (I : i_Rel k u v) (hk : k + 4 ≤ 2048) (v1 : Int32) : wpX_held (fun r => wpY_held (fun r' => r' = r ∧ i_Rel (k + 4) u v) v v1) u v1 := by
  have J : i_Rel (k + 4) u v := i_up I
  obtain ⟨d, c, x, dw, so, go, le, th, wo, rfl, rfl, hd, hc, hm⟩ := I
  obtain ⟨r, hX, hY⟩ := mr_held (nI d) x dw so go le th wo hc v1 c 0 (Nat.zero_add c) 0
  unfold wpX_held; dsimp only
  by_cases h : mr_pl v1
  · exact mr_pX h (br_f mr_n1 ⟨_, hX _ ⟨_, hY _ (mr_pY h (br_f mr_n1 ⟨rfl, J⟩))⟩⟩)
  · exact mr_pXn h (br_t rfl ⟨_, hY _ (mr_pYn h (br_t rfl ⟨rfl, J⟩))⟩)
theorem i_vc_arrived {k : Nat} {u : SX} {v : SY} (I : i_Rel k u v) (hk : k + 4 ≤ 2048) (v1 : Int32) (v2 : Int32) : wpX_arrived (fun r => wpY_arrived (fun r' => r' = r ∧ i_Rel (k + 4) u v) v v1 v2) u v1 v2 := by
  have J : i_Rel (k + 4) u v := i_up I
  obtain ⟨d, c, x, dw, so, go, le, th, wo, rfl, rfl, hd, hc, hm⟩ := I
  obtain ⟨r, hX, hY⟩ := mr_arrived (nI d) x dw so go le th wo hc v1 v2 c 0 (Nat.zero_add c) 0
  unfold wpX_arrived; dsimp only
  by_cases h : mr_pl v1
  · by_cases h2 : mr_pl v2
    · exact mr_pX h (br_f mr_n1 (mr_pX h2 (br_f mr_n1 ⟨_, hX _ ⟨_, hY _ (mr_pY h (br_f mr_n1 (mr_pY h2 (br_f mr_n1 ⟨rfl, J⟩))))⟩⟩)))
    · exact mr_pX h (br_f mr_n1 (mr_pXn h2 (br_t rfl ⟨_, hY _ (mr_pY h (br_f mr_n1 (mr_pYn h2 (br_t rfl ⟨rfl, J⟩))))⟩)))
  · exact mr_pXn h (br_t rfl ⟨_, hY _ (mr_pYn h (br_t rfl ⟨rfl, J⟩))⟩)
theorem mr_m1 : ¬ (0 : Int32) ≤ -1 := by decide
theorem mr_m1' : (-1 : Int32) < 0 := by decide
theorem mr_nm1 {j : Nat} (h : j < 2 ^ 31) : ¬ nI j = -1 := fun e => nI_pos h (by rw [e]; exact mr_m1')
theorem mr_ix (m k : Nat) : nI m * 5 + nI k = nI (5 * m + k) := by
  rw [show (5 : Int32) = nI 5 from rfl, pk_mul, nI_add, Nat.mul_comm]
theorem mr_iy (m k : Nat) : 5 * nI m + nI k = nI (5 * m + k) := by
  rw [show (5 : Int32) = nI 5 from rfl, pk_mul, nI_add]
theorem i_vc_words {k : Nat} {u : SX} {v : SY} (I : i_Rel k u v) (hk : k + 4 ≤ 2048) (v1 : Int32) (v2 : Int32) (v3 : Int32) : wpX_words (fun r => wpY_words (fun r' => r' = r ∧ i_Rel (k + 4) u v) v v1 v2 v3) u v1 v2 v3 := by
  have J : i_Rel (k + 4) u v := i_up I
  obtain ⟨d, c, x, dw, so, go, le, th, wo, rfl, rfl, hd, hc, hm⟩ := I
  obtain ⟨r, hr, hX, hY⟩ := mr_fnd (nI d) x dw so go le th wo hc v1 v2 v3
  unfold wpX_words wpY_words; dsimp only
  rcases hr with rfl | ⟨j, hj, rfl⟩
  · exact hX _ (br_t rfl (hY _ (br_f mr_m1 ⟨rfl, J⟩)))
  · have hi : vp_in (nI j) 20 := vp_in_nI (by omega) (by decide)
    exact hX _ (br_f (mr_nm1 (by omega)) ⟨hi, hY _ (br_t (nI_pos' (by omega)) ⟨hi, rfl, J⟩)⟩)
theorem i_vc_word {k : Nat} {u : SX} {v : SY} (I : i_Rel k u v) (hk : k + 4 ≤ 2048) (v1 : Int32) (v2 : Int32) (v3 : Int32) : wpX_word (fun r => wpY_word (fun r' => r' = r ∧ i_Rel (k + 4) u v) v v1 v2 v3) u v1 v2 v3 := by
  have J : i_Rel (k + 4) u v := i_up I
  obtain ⟨d, c, x, dw, so, go, le, th, wo, rfl, rfl, hd, hc, hm⟩ := I
  obtain ⟨r, hr, hX, hY⟩ := mr_fnd (nI d) x dw so go le th wo hc (v1 - v1 / 16 * 16) (v1 / 16) v2
  by_cases h0 : v1 < 0
  · exact br_t h0 (br_t h0 (br_t mr_m1' ⟨rfl, J⟩))
  by_cases h1 : v1 < 256
  · have h1' : v1 ≤ 255 := (mr_255 v1).mpr h1
    refine br_f h0 (br_t h1 ⟨mr_n16, mr_n16, hX _ ?_⟩)
    have Y0 : ∀ P : Int32 → Prop, wY_word_28 P v3 r (nI d) (nI c) x dw so go le wo th → wpY_word P (nI d, nI c, x, dw, so, go, le, wo, th) v1 v2 v3 := fun P hp => br_f h0 (br_t h1' ⟨mr_n16, mr_n16, hY _ hp⟩)
    rcases hr with rfl | ⟨j, hj, rfl⟩
    · exact br_t rfl (Y0 _ (br_t mr_m1' ⟨rfl, J⟩))
    · have hi : vp_in (nI j) 20 := vp_in_nI (by omega) (by decide)
      have hp : ¬ nI j < 0 := nI_pos (by omega)
      refine br_f (mr_nm1 (by omega)) (br_c (fun a => Y0 _ (br_f hp (br_t a ⟨rfl, J⟩))) (fun a => ⟨hi, br_c (fun b => ?_) (fun b => Y0 _ (br_f hp (br_f a ⟨hi, br_f b ⟨rfl, J⟩⟩)))⟩))
      obtain ⟨-, -, l, hl, el⟩ := hm j hj
      obtain ⟨q, hq, rfl⟩ := nI_of a
      have b' := b
      rw [nI_clamp (by omega), el, nI_ltI hq (by omega)] at b'
      have hw : vp_in (nI (5 * j + q)) 100 := vp_in_nI (by omega) (by decide)
      rw [mr_ix]
      refine ⟨hw, Y0 _ (br_f hp (br_f a ⟨hi, br_t b ?_⟩))⟩
      rw [mr_iy]
      exact ⟨hw, rfl, J⟩
  · have h1' : ¬ v1 ≤ 255 := fun z => h1 ((mr_255 v1).mp z)
    exact br_f h0 (br_f h1 (br_f h0 (br_f h1' (br_t mr_m1' ⟨rfl, J⟩))))
/-- the sum of n words from the k-th on -/
def mr_sf (f : Nat → Int32) : Nat → Nat → Int32
  | 0, _ => 0
  | n + 1, k => f k + mr_sf f n (k + 1)
section
variable (d x : Int32) (dw so go le th wo : Nat → Int32)
theorem mr_sumX {c : Int32} {m l : Nat} (hm : m < 20) (hl : l ≤ 5) (el : le m = nI l) : ∀ n k : Nat, k + n = l → ∀ (t : Int32) (post : Int32 → Prop), post (t + mr_sf (fun j => wo (5 * m + j)) n k) → wX_sumOfWords_4 post (nI m) d c x dw so go le th wo (n + 1) t (nI k) := by
  have hi : vp_in (nI m) 20 := vp_in_nI hm (by decide)
  have el' : le (nI m).toNatClampNeg = nI l := by rw [nI_clamp (by omega)]; exact el
  intro n
  induction n with
  | zero =>
    intro k hk t post hp
    have h : le (nI m).toNatClampNeg ≤ nI k := by rw [el']; exact nI_le (by omega) (by omega)
    refine ⟨hi, br_t h ?_⟩
    rw [show t = t + mr_sf (fun j => wo (5 * m + j)) 0 k from (Int32.add_zero t).symm]
    exact hp
  | succ n ih =>
    intro k hk t post hp
    have h : ¬ le (nI m).toNatClampNeg ≤ nI k := by rw [el']; exact nI_ge (by omega) (by omega)
    have hw : vp_in (nI (5 * m + k)) 100 := vp_in_nI (by omega) (by decide)
    refine ⟨hi, br_f h ?_⟩
    rw [mr_ix]
    refine ⟨hw, nm_e (nm_r (nI_1 k) (ih (k + 1) (by omega) _ post ?_))⟩
    rw [nI_clamp (by omega), Int32.add_assoc]
    exact hp
theorem mr_sumY0 {c s : Int32} {m : Nat} (hm : m < 20) (h0 : ¬ (¬ th (nI m).toNatClampNeg = 0 ∧ go (nI m).toNatClampNeg = s)) (post : Int32 → Prop) (J : Int32 → Int32 → Prop) (t : Int32) (hp : J t (nI (m + 1))) : ∀ n k : Nat, k + n = 5 → wY_sum_15 post J s (nI m) d c x dw so go le wo th (n + 1) t (nI k) := by
  have hi : vp_in (nI m) 20 := vp_in_nI hm (by decide)
  intro n
  induction n with
  | zero =>
    intro k hk
    have h : (5 : Int32) ≤ nI k := nI_le (a := 5) (by omega) (by omega)
    exact br_t h (nm_r (nI_1 m) hp)
  | succ n ih =>
    intro k hk
    have h : ¬ (5 : Int32) ≤ nI k := nI_ge (b := 5) (by omega) (by decide)
    exact br_f h ⟨hi, br_c (fun _ => nm_r (nI_1 k) (ih (k + 1) (by omega))) (fun a => ⟨hi, br_f (fun b => h0 ⟨a, b⟩) (nm_r (nI_1 k) (ih (k + 1) (by omega)))⟩)⟩
theorem mr_sumY1 {c s : Int32} {m l : Nat} (hm : m < 20) (el : le m = nI l) (h1 : ¬ th (nI m).toNatClampNeg = 0) (h2 : go (nI m).toNatClampNeg = s) (post : Int32 → Prop) (J : Int32 → Int32 → Prop) (t : Int32) (hp : J t (nI (m + 1))) : ∀ n k : Nat, k + n = 5 → l ≤ k → wY_sum_15 post J s (nI m) d c x dw so go le wo th (n + 1) t (nI k) := by
  have hi : vp_in (nI m) 20 := vp_in_nI hm (by decide)
  have el' : le (nI m).toNatClampNeg = nI l := by rw [nI_clamp (by omega)]; exact el
  intro n
  induction n with
  | zero =>
    intro k hk _
    have h : (5 : Int32) ≤ nI k := nI_le (a := 5) (by omega) (by omega)
    exact br_t h (nm_r (nI_1 m) hp)
  | succ n ih =>
    intro k hk hlk
    have h : ¬ (5 : Int32) ≤ nI k := nI_ge (b := 5) (by omega) (by decide)
    have hz : le (nI m).toNatClampNeg ≤ nI k := by rw [el']; exact nI_le (by omega) (by omega)
    exact br_f h ⟨hi, br_f h1 ⟨hi, br_t h2 ⟨hi, br_t hz (nm_r (nI_1 k) (ih (k + 1) (by omega) (by omega)))⟩⟩⟩
theorem mr_sumY2 {c s : Int32} {m l : Nat} (hm : m < 20) (hl : l ≤ 5) (el : le m = nI l) (h1 : ¬ th (nI m).toNatClampNeg = 0) (h2 : go (nI m).toNatClampNeg = s) (post : Int32 → Prop) (J : Int32 → Int32 → Prop) : ∀ n k : Nat, k + n = l → ∀ t : Int32, J (t + mr_sf (fun j => wo (5 * m + j)) n k) (nI (m + 1)) → wY_sum_15 post J s (nI m) d c x dw so go le wo th (n + (5 - l) + 1) t (nI k) := by
  have hi : vp_in (nI m) 20 := vp_in_nI hm (by decide)
  have el' : le (nI m).toNatClampNeg = nI l := by rw [nI_clamp (by omega)]; exact el
  intro n
  induction n with
  | zero =>
    intro k hk t hp
    have hp' : J t (nI (m + 1)) := by
      rw [show t = t + mr_sf (fun j => wo (5 * m + j)) 0 k from (Int32.add_zero t).symm]
      exact hp
    rw [Nat.zero_add]
    exact mr_sumY1 d x dw so go le th wo hm el h1 h2 post J t hp' (5 - l) k (by omega) (by omega)
  | succ n ih =>
    intro k hk t hp
    have h : ¬ (5 : Int32) ≤ nI k := nI_ge (b := 5) (by omega) (by decide)
    have hz : ¬ le (nI m).toNatClampNeg ≤ nI k := by rw [el']; exact nI_ge (by omega) (by omega)
    have hw : vp_in (nI (5 * m + k)) 100 := vp_in_nI (by omega) (by decide)
    rw [show n + 1 + (5 - l) = n + (5 - l) + 1 from by omega]
    refine br_f h ⟨hi, br_f h1 ⟨hi, br_t h2 ⟨hi, br_f hz ?_⟩⟩⟩
    rw [mr_iy]
    refine ⟨hw, nm_e (nm_r (nI_1 k) (ih (k + 1) (by omega) _ ?_))⟩
    rw [nI_clamp (by omega), Int32.add_assoc]
    exact hp
theorem mr_sum {c : Nat} (hc : c ≤ 20) (hok : mr_ok c so go le) (s : Int32) : ∀ n m : Nat, m + n = c → ∀ f : Int32, ∃ r : Int32, (∀ post : Int32 → Prop, post r → wX_sum_4 post s d (nI c) x dw so go le th wo (n + 1) f (nI m)) ∧ (∀ post : Int32 → Prop, post r → wY_sum_4 post s d (nI c) x dw so go le wo th (n + 1) f (nI m)) := by
  intro n
  induction n with
  | zero =>
    intro m hm f
    have h : nI c ≤ nI m := nI_le (by omega) (by omega)
    exact ⟨f, fun _ hp => br_t h hp, fun _ hp => br_t h hp⟩
  | succ n ih =>
    intro m hm f
    have h : ¬ nI c ≤ nI m := nI_ge (by omega) (by omega)
    have hi : vp_in (nI m) 20 := vp_in_nI (by omega) (by decide)
    by_cases t : th (nI m).toNatClampNeg = 0
    · obtain ⟨r, hX, hY⟩ := ih (m + 1) (by omega) f
      exact ⟨r, fun post hp => br_f h ⟨hi, br_t t (nm_r (nI_1 m) (hX post hp))⟩, fun post hp => br_f h ⟨_, mr_sumY0 d x dw so go le th wo (by omega) (fun z => z.1 t) post _ f (hY post hp) 5 0 rfl⟩⟩
    · by_cases g : go (nI m).toNatClampNeg = s
      · obtain ⟨-, -, l, hl, el⟩ := hok m (by omega)
        obtain ⟨r, hX, hY⟩ := ih (m + 1) (by omega) (f + mr_sf (fun j => wo (5 * m + j)) l 0)
        refine ⟨r, fun post hp => br_f h ⟨hi, br_f t ⟨hi, br_t g ⟨_, mr_sumX d x dw so go le th wo (by omega) hl el l 0 (Nat.zero_add l) 0 _ ?_⟩⟩⟩, fun post hp => br_f h ⟨_, mr_sumY2 d x dw so go le th wo (by omega) hl el t g post _ l 0 (Nat.zero_add l) f (hY post hp)⟩⟩
        exact nm_r (congrArg (f + ·) (Int32.zero_add _)) (nm_r (nI_1 m) (hX post hp))
      · obtain ⟨r, hX, hY⟩ := ih (m + 1) (by omega) f
        exact ⟨r, fun post hp => br_f h ⟨hi, br_f t ⟨hi, br_f g (nm_r (nI_1 m) (hX post hp))⟩⟩, fun post hp => br_f h ⟨_, mr_sumY0 d x dw so go le th wo (by omega) (fun z => g z.2) post _ f (hY post hp) 5 0 rfl⟩⟩
end
theorem i_vc_sum {k : Nat} {u : SX} {v : SY} (I : i_Rel k u v) (hk : k + 4 ≤ 2048) (v1 : Int32) : wpX_sum (fun r => wpY_sum (fun r' => r' = r ∧ i_Rel (k + 4) u v) v v1) u v1 := by
  have J : i_Rel (k + 4) u v := i_up I
  obtain ⟨d, c, x, dw, so, go, le, th, wo, rfl, rfl, hd, hc, hm⟩ := I
  obtain ⟨r, hX, hY⟩ := mr_sum (nI d) x dw so go le th wo hc hm v1 c 0 (Nat.zero_add c) 0
  exact ⟨_, hX _ ⟨_, hY _ ⟨rfl, J⟩⟩⟩
end
section
theorem mr_okU {c : Nat} {so go le : Nat → Int32} (h : mr_ok c so go le) {m : Nat} {a b e : Int32} (ha : mr_pl a) (hb : mr_pl b) (he : ∃ l, l ≤ 5 ∧ e = nI l) : mr_ok c (upd so m a) (upd go m b) (upd le m e) := by
  intro i hi
  by_cases z : i = m
  · subst z
    rw [pk_us, pk_us, pk_us]
    exact ⟨ha, hb, he⟩
  · rw [pk_un z, pk_un z, pk_un z]
    exact h i hi
theorem mr_okS {c : Nat} {so go le : Nat → Int32} (h : mr_ok c so go le) {a b e : Int32} (ha : mr_pl a) (hb : mr_pl b) (he : ∃ l, l ≤ 5 ∧ e = nI l) : mr_ok (c + 1) (upd so c a) (upd go c b) (upd le c e) := by
  intro i hi
  by_cases z : i = c
  · subst z
    rw [pk_us, pk_us, pk_us]
    exact ⟨ha, hb, he⟩
  · rw [pk_un z, pk_un z, pk_un z]
    exact h i (by omega)
section
variable (x : Int32) (dw so go le th : Nat → Int32)
theorem mr_send {d c : Nat} (hd : d ≤ 5) (hc : c < 20) : ∀ n k : Nat, k + n = d → ∀ wo : Nat → Int32, ∃ wo' : Nat → Int32, (∀ post : Int32 → SX → Prop, post (nI (c + 1)) (0, nI (c + 1), x, dw, so, go, le, th, wo') → wX_send_90 post (nI d) (nI c) x (n + 1) (nI k) dw so go le th wo) ∧ (∀ post : Int32 → SY → Prop, post (nI (c + 1)) (0, nI (c + 1), x, dw, so, go, le, wo', th) → wY_send_92 post (nI d) (nI c) x (n + 1) (nI k) dw so go le wo th) := by
  intro n
  induction n with
  | zero =>
    intro k hk wo
    have h : nI d ≤ nI k := nI_le (by omega) (by omega)
    exact ⟨wo, fun _ hp => br_t h (nm_r (nI_1 c) hp), fun _ hp => br_t h (nm_r (nI_1 c) hp)⟩
  | succ n ih =>
    intro k hk wo
    have h : ¬ nI d ≤ nI k := nI_ge (by omega) (by omega)
    have hi : vp_in (nI k) 5 := vp_in_nI (by omega) (by decide)
    have hw : vp_in (nI (5 * c + k)) 100 := vp_in_nI (by omega) (by decide)
    obtain ⟨wo', hX, hY⟩ := ih (k + 1) (by omega) (upd wo (nI (5 * c + k)).toNatClampNeg (dw (nI k).toNatClampNeg))
    refine ⟨wo', fun post hp => br_f h ⟨hi, ?_⟩, fun post hp => br_f h ⟨hi, ?_⟩⟩
    · rw [mr_ix]
      exact ⟨hw, nm_e (nm_r (nI_1 k) (hX post hp))⟩
    · rw [mr_iy]
      exact ⟨hw, nm_e (nm_r (nI_1 k) (hY post hp))⟩
end
theorem i_vc_send {k : Nat} {u : SX} {v : SY} (I : i_Rel k u v) (hk : k + 4 ≤ 2048) (v1 : Int32) (v2 : Int32) (v3 : Int32) : wpX_send (fun r u' => wpY_send (fun r' v' => r' = r ∧ i_Rel (k + 4) u' v') v v1 v2 v3) u v1 v2 v3 := by
  have J : i_Rel (k + 4) u v := i_up I
  obtain ⟨d, c, x, dw, so, go, le, th, wo, rfl, rfl, hd, hc, hm⟩ := I
  unfold wpX_send wpY_send; dsimp only
  by_cases h1 : mr_pl v1
  · by_cases h2 : mr_pl v2
    · refine mr_pX h1 (br_f mr_n1 (mr_pX h2 (br_f mr_n1 (br_c (fun a => ?_) (fun a => br_c (fun b => ?_) (fun b => br_c (fun e => ?_) (fun e => br_c (fun g => ?_) (fun g => ?_))))))))
      · exact mr_pY h1 (br_f mr_n1 (mr_pY h2 (br_f mr_n1 (br_t a ⟨rfl, J⟩))))
      · exact mr_pY h1 (br_f mr_n1 (mr_pY h2 (br_f mr_n1 (br_f a (br_t ((mr_2 v3).mpr b) ⟨rfl, J⟩)))))
      · exact mr_pY h1 (br_f mr_n1 (mr_pY h2 (br_f mr_n1 (br_f a (br_f (fun z => b ((mr_2 v3).mp z)) (br_t e ⟨rfl, J⟩))))))
      · have hc' : c < 20 := by
          have g' := g
          rw [show (20 : Int32) = nI 20 from rfl, nI_ltI (by omega) (by decide)] at g'
          exact g'
        have hi : vp_in (nI c) 20 := vp_in_nI hc' (by decide)
        have cl : (nI c).toNatClampNeg = c := nI_clamp (by omega)
        obtain ⟨wo', hX, hY⟩ := mr_send x dw (upd so (nI c).toNatClampNeg v1) (upd go (nI c).toNatClampNeg v2) (upd le (nI c).toNatClampNeg (nI d)) (upd th (nI c).toNatClampNeg (vp_nar .boolean 0)) hd hc' d 0 (Nat.zero_add d) wo
        refine ⟨hi, nm_e ⟨hi, nm_e ⟨hi, nm_e ⟨hi, nm_e ⟨_, hX _ ?_⟩⟩⟩⟩⟩
        refine mr_pY h1 (br_f mr_n1 (mr_pY h2 (br_f mr_n1 (br_f a (br_f (fun z => b ((mr_2 v3).mp z)) (br_f e (br_t g ?_)))))))
        refine ⟨hi, nm_e ⟨hi, nm_e ⟨hi, nm_e ⟨hi, nm_e ⟨_, hY _ ⟨rfl, ?_⟩⟩⟩⟩⟩⟩
        rw [cl]
        exact mr_mk (d := 0) (Nat.zero_le _) hc' (mr_okS hm h1 h2 ⟨d, hd, rfl⟩)
      · exact mr_pY h1 (br_f mr_n1 (mr_pY h2 (br_f mr_n1 (br_f a (br_f (fun z => b ((mr_2 v3).mp z)) (br_f e (br_f g ⟨rfl, J⟩)))))))
    · exact mr_pX h1 (br_f mr_n1 (mr_pXn h2 (br_t rfl (mr_pY h1 (br_f mr_n1 (mr_pYn h2 (br_t rfl ⟨rfl, J⟩)))))))
  · exact mr_pXn h1 (br_t rfl (mr_pYn h1 (br_t rfl ⟨rfl, J⟩)))
section
variable (d : Int32) (dw so go le wo : Nat → Int32)
theorem mr_settle {c : Nat} (hc : c ≤ 20) (hok : mr_ok c so go le) : ∀ n m : Nat, m + n = c → ∀ (f x : Int32) (th : Nat → Int32), ∃ (r x' : Int32) (th' : Nat → Int32), (∀ post : Int32 → SX → Prop, post r (d, nI c, x', dw, so, go, le, th', wo) → wX_settle_4 post d (nI c) (n + 1) f (nI m) x dw so go le th wo) ∧ (∀ post : Int32 → SY → Prop, post r (d, nI c, x', dw, so, go, le, wo, th') → wY_settle_4 post d (nI c) (n + 1) f (nI m) x dw so go le wo th) := by
  intro n
  induction n with
  | zero =>
    intro m hm f x th
    have h : nI c ≤ nI m := nI_le (by omega) (by omega)
    exact ⟨f, x, th, fun _ hp => br_t h hp, fun _ hp => br_t h hp⟩
  | succ n ih =>
    intro m hm f x th
    have h : ¬ nI c ≤ nI m := nI_ge (by omega) (by omega)
    have hi : vp_in (nI m) 20 := vp_in_nI (by omega) (by decide)
    by_cases t : th (nI m).toNatClampNeg = 0
    · obtain ⟨q, qX, qY⟩ := mr_dist (so (nI m).toNatClampNeg) (go (nI m).toNatClampNeg)
      obtain ⟨p1, p2, -⟩ : mr_pl (so (nI m).toNatClampNeg) ∧ mr_pl (go (nI m).toNatClampNeg) ∧ True := by
        rw [nI_clamp (by omega)]
        exact ⟨(hok m (by omega)).1, (hok m (by omega)).2.1, trivial⟩
      obtain ⟨r, x', th', hX, hY⟩ := ih (m + 1) (by omega) (f + 1) (x + (q * (le (nI m).toNatClampNeg + 1))) (upd th (nI m).toNatClampNeg (vp_nar .boolean 1))
      exact ⟨r, x', th', fun post hp => br_f h ⟨hi, br_t t ⟨hi, nm_e ⟨hi, hi, hi, qX _ (nm_r (congrArg (x + ·) (Int32.mul_comm _ _)) (nm_e (nm_r (nI_1 m) (hX post hp))))⟩⟩⟩,
        fun post hp => br_f h ⟨hi, br_t t ⟨hi, nm_e (nm_e ⟨hi, hi, qY _ _ p1 p2 ⟨hi, nm_e (nm_r (nI_1 m) (hY post hp))⟩⟩)⟩⟩⟩
    · obtain ⟨r, x', th', hX, hY⟩ := ih (m + 1) (by omega) f x th
      exact ⟨r, x', th', fun post hp => br_f h ⟨hi, br_f t (nm_r (nI_1 m) (hX post hp))⟩, fun post hp => br_f h ⟨hi, br_f t (nm_r (nI_1 m) (hY post hp))⟩⟩
end
theorem i_vc_settle {k : Nat} {u : SX} {v : SY} (I : i_Rel k u v) (hk : k + 4 ≤ 2048) : wpX_settle (fun r u' => wpY_settle (fun r' v' => r' = r ∧ i_Rel (k + 4) u' v') v) u := by
  obtain ⟨d, c, x, dw, so, go, le, th, wo, rfl, rfl, hd, hc, hm⟩ := I
  obtain ⟨r, x', th', hX, hY⟩ := mr_settle (nI d) dw so go le wo hc hm c 0 (Nat.zero_add c) 0 x th
  exact ⟨_, hX _ ⟨_, hY _ ⟨rfl, mr_mk hd hc hm⟩⟩⟩
end
section
theorem mr_iz (m k : Nat) : 5 * nI m + 5 + nI k = nI (5 * (m + 1) + k) := by
  rw [show (5 : Int32) = nI 5 from rfl, pk_mul, nI_add, nI_add]
  exact congrArg nI (by omega)
section
variable (d c x : Int32) (dw so go le th : Nat → Int32)
theorem mr_copy {m : Nat} (hm : m + 1 < 20) : ∀ n k : Nat, k + n = 5 → ∀ wo : Nat → Int32, ∃ wo' : Nat → Int32, (∀ post : SX → Prop, post (d, c, x, dw, so, go, le, th, wo') → wX_copyDown_50 post (nI (m + 1)) (nI m) d c x (n + 1) (nI k) dw so go le th wo) ∧ (∀ (post : Int32 → SY → Prop) (J : Int32 → (Nat → Int32) → (Nat → Int32) → (Nat → Int32) → (Nat → Int32) → (Nat → Int32) → (Nat → Int32) → Prop) (x4 : Int32), J (nI (m + 1)) dw so go le wo' th → wY_take_111 post J x4 (nI m) d c x (n + 1) (nI k) dw so go le wo th) := by
  intro n
  induction n with
  | zero =>
    intro k hk wo
    have h : (5 : Int32) ≤ nI k := nI_le (a := 5) (by omega) (by omega)
    exact ⟨wo, fun _ hp => br_t h hp, fun _ _ _ hp => br_t h (nm_r (nI_1 m) hp)⟩
  | succ n ih =>
    intro k hk wo
    have h : ¬ (5 : Int32) ≤ nI k := nI_ge (b := 5) (by omega) (by decide)
    have h1 : vp_in (nI (5 * (m + 1) + k)) 100 := vp_in_nI (by omega) (by decide)
    have h2 : vp_in (nI (5 * m + k)) 100 := vp_in_nI (by omega) (by decide)
    obtain ⟨wo', hX, hY⟩ := ih (k + 1) (by omega) (upd wo (nI (5 * m + k)).toNatClampNeg (wo (nI (5 * (m + 1) + k)).toNatClampNeg))
    refine ⟨wo', fun post hp => br_f h ?_, fun post J x4 hp => br_f h ?_⟩
    · rw [mr_ix, mr_ix]
      exact ⟨h1, h2, nm_e (nm_r (nI_1 k) (hX post hp))⟩
    · rw [mr_iz, mr_iy]
      exact ⟨h1, h2, nm_e (nm_r (nI_1 k) (hY post J x4 hp))⟩
end
section
variable (d x : Int32) (dw : Nat → Int32)
theorem mr_remove {c : Nat} (hc : c < 20) : ∀ n m : Nat, m + n = c → ∀ so go le th wo : Nat → Int32, mr_ok (c + 1) so go le → ∃ so' go' le' th' wo' : Nat → Int32, mr_ok (c + 1) so' go' le' ∧ (∀ post : SX → Prop, post (d, nI c, x, dw, so', go', le', th', wo') → wX_remove_12 post (n + 1) (nI m) d (nI c) x dw so go le th wo) ∧ (∀ (post : Int32 → SY → Prop) (x4 : Int32), post x4 (d, nI c, x, dw, so', go', le', wo', th') → wY_take_35 post x4 d (nI c) x (n + 1) (nI m) dw so go le wo th) := by
  intro n
  induction n with
  | zero =>
    intro m hm so go le th wo hok
    have h : nI c ≤ nI m := nI_le (by omega) (by omega)
    exact ⟨so, go, le, th, wo, hok, fun _ hp => br_t h hp, fun _ _ hp => br_t h hp⟩
  | succ n ih =>
    intro m hm so go le th wo hok
    have h : ¬ nI c ≤ nI m := nI_ge (by omega) (by omega)
    have hi : vp_in (nI m) 20 := vp_in_nI (by omega) (by decide)
    have hj : vp_in (nI (m + 1)) 20 := vp_in_nI (by omega) (by decide)
    have hok' := mr_okU hok (m := (nI m).toNatClampNeg) (a := so (nI (m + 1)).toNatClampNeg) (b := go (nI (m + 1)).toNatClampNeg) (e := le (nI (m + 1)).toNatClampNeg) (by rw [nI_clamp (by omega)]; exact (hok (m + 1) (by omega)).1) (by rw [nI_clamp (by omega)]; exact (hok (m + 1) (by omega)).2.1) (by rw [nI_clamp (by omega)]; exact (hok (m + 1) (by omega)).2.2)
    obtain ⟨w, wX, wY⟩ := mr_copy d (nI c) x dw (upd so (nI m).toNatClampNeg (so (nI (m + 1)).toNatClampNeg)) (upd go (nI m).toNatClampNeg (go (nI (m + 1)).toNatClampNeg)) (upd le (nI m).toNatClampNeg (le (nI (m + 1)).toNatClampNeg)) (upd th (nI m).toNatClampNeg (vp_nar .boolean (th (nI (m + 1)).toNatClampNeg))) (m := m) (by omega) 5 0 rfl wo
    obtain ⟨so', go', le', th', wo', hok2, hX, hY⟩ := ih (m + 1) (by omega) _ _ _ (upd th (nI m).toNatClampNeg (vp_nar .boolean (th (nI (m + 1)).toNatClampNeg))) w hok'
    refine ⟨so', go', le', th', wo', hok2, fun post hp => br_f h ?_, fun post x4 hp => br_f h ?_⟩
    · rw [nI_1]
      exact ⟨hj, hi, nm_e ⟨hj, hi, nm_e ⟨hj, hi, nm_e ⟨hj, hi, nm_e ⟨_, wX _ (nm_e (hX post hp))⟩⟩⟩⟩⟩
    · rw [nI_1]
      exact ⟨hj, hi, nm_e ⟨hj, hi, nm_e ⟨hj, hi, nm_e ⟨hj, hi, nm_e ⟨_, wY _ _ _ (hY post x4 hp)⟩⟩⟩⟩⟩
end
theorem i_vc_take {k : Nat} {u : SX} {v : SY} (I : i_Rel k u v) (hk : k + 4 ≤ 2048) (v1 : Int32) (v2 : Int32) : wpX_take (fun r u' => wpY_take (fun r' v' => r' = r ∧ i_Rel (k + 4) u' v') v v1 v2) u v1 v2 := by
  have J : i_Rel (k + 4) u v := i_up I
  obtain ⟨d, c, x, dw, so, go, le, th, wo, rfl, rfl, hd, hc, hm⟩ := I
  obtain ⟨r, hr, hX, hY⟩ := mr_fnd (nI d) x dw so go le th wo hc v1 v2 0
  unfold wpX_take wpY_take; dsimp only
  rcases hr with rfl | ⟨j, hj, rfl⟩
  · exact hX _ (br_t rfl (hY _ (br_f mr_m1 ⟨rfl, J⟩)))
  · have hi : vp_in (nI j) 20 := vp_in_nI (by omega) (by decide)
    obtain ⟨c', rfl⟩ : ∃ c', c = c' + 1 := ⟨c - 1, by omega⟩
    obtain ⟨so', go', le', th', wo', hok, rX, rY⟩ := mr_remove (nI d) x dw (c := c') (by omega) (c' - j) j (by omega) so go le th wo hm
    refine hX _ (br_f (mr_nm1 (by omega)) ⟨hi, nm_e ?_⟩)
    unfold wpX_remove; dsimp only
    refine nm_r (nI_pred c') ⟨_, rX _ ?_⟩
    refine hY _ (br_t (nI_pos' (by omega)) ⟨hi, nm_e (nm_r (nI_pred c') ⟨_, rY _ _ ⟨rfl, ?_⟩⟩)⟩)
    exact mr_mk hd (by omega) (fun i h => hok i (by omega))
end
