theorem i_vc_waiting {k : Nat} {u : SX} {v : SY} (I : i_Rel k u v) (hk : k + 4 ≤ 2048) (v1 : Int32) : wpX_waiting (fun r => wpY_waiting (fun r' => r' = r ∧ i_Rel (k + 4) u v) v v1) u v1 := by
  have J : i_Rel (k + 4) u v := i_up I
  obtain ⟨d, c, x, dw, so, go, le, th, wo, rfl, rfl, hd, hc, hm⟩ := I
  obtain ⟨r, hX, hY⟩ := mr_waiting (nI d) x dw so go le th wo hc v1 c 0 (Nat.zero_add c) 0
  unfold wpX_waiting; dsimp only
  by_cases h : mr_pl v1
  · exact mr_pX h (br_f mr_n1 ⟨_, hX _ ⟨_, hY _ (mr_pY h (br_f mr_n1 ⟨rfl, J⟩))⟩⟩)
  · exact mr_pXn h (br_t rfl ⟨_, hY _ (mr_pYn h (br_t rfl ⟨rfl, J⟩))⟩)
theorem i_vc_held {k : Nat} {u : SX} {v : SY} (I : i_Rel k u v) (hk : k + 4 ≤ 2048) (v1 : Int32) : wpX_held (fun r => wpY_held (fun r' => r' = r ∧ i_Rel (k + 4) u v) v v1) u v1 := by
  have J : i_Rel (k + 4) u v := i_up I
  obtain ⟨d, c, x, dw, so, go, le, th, wo, rfl, rfl, hd, hc, hm⟩ := I
  obtain ⟨r, hX, hY⟩ := mr_held (nI d) x dw so go le th wo hc v1 c 0 (Nat.zero_add c) 0
  unfold wpX_held; dsimp only
  by_cases h : mr_pl v1
  · exact mr_pX h (br_f mr_n1 ⟨_, hX _ ⟨_, hY _ (mr_pY h (br_f mr_n1 ⟨rfl, J⟩))⟩⟩)
  · exact mr_pXn h (br_t rfl ⟨_, hY _ (mr_pYn h (br_t rfl ⟨rfl, J⟩))⟩)
theorem i_vc_arrived {k : Nat} {u : SX} {v : SY} (I : i_Rel k u v) (hk : k + 4 ≤ 2048) (v1 : Int32) (v2 : Int32) : wpX_arrived (fun r => wpY_arrived (fun r' => r' = r ∧ i_Rel (k + 4) u v) v v1 v2) u v1 v2 := by
  have J : i_Rel (k + 4) u v := i_up I
  obtain ⟨d, c, x, dw, so, go, le, th, wo, rfl, rfl, hd, hc, hm⟩ := I
  obtain ⟨r, hX, hY⟩ := mr_arrived (nI d) x dw so go le th wo hc v1 v2 c 0 (Nat.zero_add c) 0
  unfold wpX_arrived; dsimp only
  by_cases h : mr_pl v1
  · by_cases h2 : mr_pl v2
    · exact mr_pX h (br_f mr_n1 (mr_pX h2 (br_f mr_n1 ⟨_, hX _ ⟨_, hY _ (mr_pY h (br_f mr_n1 (mr_pY h2 (br_f mr_n1 ⟨rfl, J⟩))))⟩⟩)))
    · exact mr_pX h (br_f mr_n1 (mr_pXn h2 (br_t rfl ⟨_, hY _ (mr_pY h (br_f mr_n1 (mr_pYn h2 (br_t rfl ⟨rfl, J⟩))))⟩)))
  · exact mr_pXn h (br_t rfl ⟨_, hY _ (mr_pYn h (br_t rfl ⟨rfl, J⟩))⟩)
theorem mr_m1 : ¬ (0 : Int32) ≤ -1 := by decide
theorem mr_m1' : (-1 : Int32) < 0 := by decide
theorem mr_nm1 {j : Nat} (h : j < 2 ^ 31) : ¬ nI j = -1 := fun e => nI_pos h (by rw [e]; exact mr_m1')
theorem mr_ix (m k : Nat) : nI m * 5 + nI k = nI (5 * m + k) := by
  rw [show (5 : Int32) = nI 5 from rfl, pk_mul, nI_add, Nat.mul_comm]
theorem mr_iy (m k : Nat) : 5 * nI m + nI k = nI (5 * m + k) := by
  rw [show (5 : Int32) = nI 5 from rfl, pk_mul, nI_add]
theorem i_vc_words {k : Nat} {u : SX} {v : SY} (I : i_Rel k u v) (hk : k + 4 ≤ 2048) (v1 : Int32) (v2 : Int32) (v3 : Int32) : wpX_words (fun r => wpY_words (fun r' => r' = r ∧ i_Rel (k + 4) u v) v v1 v2 v3) u v1 v2 v3 := by
  have J : i_Rel (k + 4) u v := i_up I
  obtain ⟨d, c, x, dw, so, go, le, th, wo, rfl, rfl, hd, hc, hm⟩ := I
  obtain ⟨r, hr, hX, hY⟩ := mr_fnd (nI d) x dw so go le th wo hc v1 v2 v3
  unfold wpX_words wpY_words; dsimp only
  rcases hr with rfl | ⟨j, hj, rfl⟩
  · exact hX _ (br_t rfl (hY _ (br_f mr_m1 ⟨rfl, J⟩)))
  · have hi : vp_in (nI j) 20 := vp_in_nI (by omega) (by decide)
    exact hX _ (br_f (mr_nm1 (by omega)) ⟨hi, hY _ (br_t (nI_pos' (by omega)) ⟨hi, rfl, J⟩)⟩)
theorem i_vc_word {k : Nat} {u : SX} {v : SY} (I : i_Rel k u v) (hk : k + 4 ≤ 2048) (v1 : Int32) (v2 : Int32) (v3 : Int32) : wpX_word (fun r => wpY_word (fun r' => r' = r ∧ i_Rel (k + 4) u v) v v1 v2 v3) u v1 v2 v3 := by
  have J : i_Rel (k + 4) u v := i_up I
  obtain ⟨d, c, x, dw, so, go, le, th, wo, rfl, rfl, hd, hc, hm⟩ := I
  obtain ⟨r, hr, hX, hY⟩ := mr_fnd (nI d) x dw so go le th wo hc (v1 - v1 / 16 * 16) (v1 / 16) v2
  by_cases h0 : v1 < 0
  · exact br_t h0 (br_t h0 (br_t mr_m1' ⟨rfl, J⟩))
  by_cases h1 : v1 < 256
  · have h1' : v1 ≤ 255 := (mr_255 v1).mpr h1
    refine br_f h0 (br_t h1 ⟨mr_n16, mr_n16, hX _ ?_⟩)
    have Y0 : ∀ P : Int32 → Prop, wY_word_28 P v3 r (nI d) (nI c) x dw so go le wo th → wpY_word P (nI d, nI c, x, dw, so, go, le, wo, th) v1 v2 v3 := fun P hp => br_f h0 (br_t h1' ⟨mr_n16, mr_n16, hY _ hp⟩)
    rcases hr with rfl | ⟨j, hj, rfl⟩
    · exact br_t rfl (Y0 _ (br_t mr_m1' ⟨rfl, J⟩))
    · have hi : vp_in (nI j) 20 := vp_in_nI (by omega) (by decide)
      have hp : ¬ nI j < 0 := nI_pos (by omega)
      refine br_f (mr_nm1 (by omega)) (br_c (fun a => Y0 _ (br_f hp (br_t a ⟨rfl, J⟩))) (fun a => ⟨hi, br_c (fun b => ?_) (fun b => Y0 _ (br_f hp (br_f a ⟨hi, br_f b ⟨rfl, J⟩⟩)))⟩))
      obtain ⟨-, -, l, hl, el⟩ := hm j hj
      obtain ⟨q, hq, rfl⟩ := nI_of a
      have b' := b
      rw [nI_clamp (by omega), el, nI_ltI hq (by omega)] at b'
      have hw : vp_in (nI (5 * j + q)) 100 := vp_in_nI (by omega) (by decide)
      rw [mr_ix]
      refine ⟨hw, Y0 _ (br_f hp (br_f a ⟨hi, br_t b ?_⟩))⟩
      rw [mr_iy]
      exact ⟨hw, rfl, J⟩
  · have h1' : ¬ v1 ≤ 255 := fun z => h1 ((mr_255 v1).mp z)
    exact br_f h0 (br_f h1 (br_f h0 (br_f h1' (br_t mr_m1' ⟨rfl, J⟩))))
/-- the sum of n words from the k-th on -/
def mr_sf (f : Nat → Int32) : Nat → Nat → Int32
  | 0, _ => 0
  | n + 1, k => f k + mr_sf f n (k + 1)
section
variable (d x : Int32) (dw so go le th wo : Nat → Int32)
theorem mr_sumX {c : Int32} {m l : Nat} (hm : m < 20) (hl : l ≤ 5) (el : le m = nI l) : ∀ n k : Nat, k + n = l → ∀ (t : Int32) (post : Int32 → Prop), post (t + mr_sf (fun j => wo (5 * m + j)) n k) → wX_sumOfWords_4 post (nI m) d c x dw so go le th wo (n + 1) t (nI k) := by
  have hi : vp_in (nI m) 20 := vp_in_nI hm (by decide)
  have el' : le (nI m).toNatClampNeg = nI l := by rw [nI_clamp (by omega)]; exact el
  intro n
  induction n with
  | zero =>
    intro k hk t post hp
    have h : le (nI m).toNatClampNeg ≤ nI k := by rw [el']; exact nI_le (by omega) (by omega)
    refine ⟨hi, br_t h ?_⟩
    rw [show t = t + mr_sf (fun j => wo (5 * m + j)) 0 k from (Int32.add_zero t).symm]
    exact hp
  | succ n ih =>
    intro k hk t post hp
    have h : ¬ le (nI m).toNatClampNeg ≤ nI k := by rw [el']; exact nI_ge (by omega) (by omega)
    have hw : vp_in (nI (5 * m + k)) 100 := vp_in_nI (by omega) (by decide)
    refine ⟨hi, br_f h ?_⟩
    rw [mr_ix]
    refine ⟨hw, nm_e (nm_r (nI_1 k) (ih (k + 1) (by omega) _ post ?_))⟩
    rw [nI_clamp (by omega), Int32.add_assoc]
    exact hp
theorem mr_sumY0 {c s : Int32} {m : Nat} (hm : m < 20) (h0 : ¬ (¬ th (nI m).toNatClampNeg = 0 ∧ go (nI m).toNatClampNeg = s)) (post : Int32 → Prop) (J : Int32 → Int32 → Prop) (t : Int32) (hp : J t (nI (m + 1))) : ∀ n k : Nat, k + n = 5 → wY_sum_15 post J s (nI m) d c x dw so go le wo th (n + 1) t (nI k) := by
  have hi : vp_in (nI m) 20 := vp_in_nI hm (by decide)
  intro n
  induction n with
  | zero =>
    intro k hk
    have h : (5 : Int32) ≤ nI k := nI_le (a := 5) (by omega) (by omega)
    exact br_t h (nm_r (nI_1 m) hp)
  | succ n ih =>
    intro k hk
    have h : ¬ (5 : Int32) ≤ nI k := nI_ge (b := 5) (by omega) (by decide)
    exact br_f h ⟨hi, br_c (fun _ => nm_r (nI_1 k) (ih (k + 1) (by omega))) (fun a => ⟨hi, br_f (fun b => h0 ⟨a, b⟩) (nm_r (nI_1 k) (ih (k + 1) (by omega)))⟩)⟩
theorem mr_sumY1 {c s : Int32} {m l : Nat} (hm : m < 20) (el : le m = nI l) (h1 : ¬ th (nI m).toNatClampNeg = 0) (h2 : go (nI m).toNatClampNeg = s) (post : Int32 → Prop) (J : Int32 → Int32 → Prop) (t : Int32) (hp : J t (nI (m + 1))) : ∀ n k : Nat, k + n = 5 → l ≤ k → wY_sum_15 post J s (nI m) d c x dw so go le wo th (n + 1) t (nI k) := by
  have hi : vp_in (nI m) 20 := vp_in_nI hm (by decide)
  have el' : le (nI m).toNatClampNeg = nI l := by rw [nI_clamp (by omega)]; exact el
  intro n
  induction n with
  | zero =>
    intro k hk _
    have h : (5 : Int32) ≤ nI k := nI_le (a := 5) (by omega) (by omega)
    exact br_t h (nm_r (nI_1 m) hp)
  | succ n ih =>
    intro k hk hlk
    have h : ¬ (5 : Int32) ≤ nI k := nI_ge (b := 5) (by omega) (by decide)
    have hz : le (nI m).toNatClampNeg ≤ nI k := by rw [el']; exact nI_le (by omega) (by omega)
    exact br_f h ⟨hi, br_f h1 ⟨hi, br_t h2 ⟨hi, br_t hz (nm_r (nI_1 k) (ih (k + 1) (by omega) (by omega)))⟩⟩⟩
theorem mr_sumY2 {c s : Int32} {m l : Nat} (hm : m < 20) (hl : l ≤ 5) (el : le m = nI l) (h1 : ¬ th (nI m).toNatClampNeg = 0) (h2 : go (nI m).toNatClampNeg = s) (post : Int32 → Prop) (J : Int32 → Int32 → Prop) : ∀ n k : Nat, k + n = l → ∀ t : Int32, J (t + mr_sf (fun j => wo (5 * m + j)) n k) (nI (m + 1)) → wY_sum_15 post J s (nI m) d c x dw so go le wo th (n + (5 - l) + 1) t (nI k) := by
  have hi : vp_in (nI m) 20 := vp_in_nI hm (by decide)
  have el' : le (nI m).toNatClampNeg = nI l := by rw [nI_clamp (by omega)]; exact el
  intro n
  induction n with
  | zero =>
    intro k hk t hp
    have hp' : J t (nI (m + 1)) := by
      rw [show t = t + mr_sf (fun j => wo (5 * m + j)) 0 k from (Int32.add_zero t).symm]
      exact hp
    rw [Nat.zero_add]
    exact mr_sumY1 d x dw so go le th wo hm el h1 h2 post J t hp' (5 - l) k (by omega) (by omega)
  | succ n ih =>
    intro k hk t hp
    have h : ¬ (5 : Int32) ≤ nI k := nI_ge (b := 5) (by omega) (by decide)
    have hz : ¬ le (nI m).toNatClampNeg ≤ nI k := by rw [el']; exact nI_ge (by omega) (by omega)
    have hw : vp_in (nI (5 * m + k)) 100 := vp_in_nI (by omega) (by decide)
    rw [show n + 1 + (5 - l) = n + (5 - l) + 1 from by omega]
    refine br_f h ⟨hi, br_f h1 ⟨hi, br_t h2 ⟨hi, br_f hz ?_⟩⟩⟩
    rw [mr_iy]
    refine ⟨hw, nm_e (nm_r (nI_1 k) (ih (k + 1) (by omega) _ ?_))⟩
    rw [nI_clamp (by omega), Int32.add_assoc]
    exact hp
theorem mr_sum {c : Nat} (hc : c ≤ 20) (hok : mr_ok c so go le) (s : Int32) : ∀ n m : Nat, m + n = c → ∀ f : Int32, ∃ r : Int32, (∀ post : Int32 → Prop, post r → wX_sum_4 post s d (nI c) x dw so go le th wo (n + 1) f (nI m)) ∧ (∀ post : Int32 → Prop, post r → wY_sum_4 post s d (nI c) x dw so go le wo th (n + 1) f (nI m)) := by
  intro n
  induction n with
  | zero =>
    intro m hm f
    have h : nI c ≤ nI m := nI_le (by omega) (by omega)
    exact ⟨f, fun _ hp => br_t h hp, fun _ hp => br_t h hp⟩
  | succ n ih =>
    intro m hm f
    have h : ¬ nI c ≤ nI m := nI_ge (by omega) (by omega)
    have hi : vp_in (nI m) 20 := vp_in_nI (by omega) (by decide)
    by_cases t : th (nI m).toNatClampNeg = 0
    · obtain ⟨r, hX, hY⟩ := ih (m + 1) (by omega) f
      exact ⟨r, fun post hp => br_f h ⟨hi, br_t t (nm_r (nI_1 m) (hX post hp))⟩, fun post hp => br_f h ⟨_, mr_sumY0 d x dw so go le th wo (by omega) (fun z => z.1 t) post _ f (hY post hp) 5 0 rfl⟩⟩
    · by_cases g : go (nI m).toNatClampNeg = s
      · obtain ⟨-, -, l, hl, el⟩ := hok m (by omega)
        obtain ⟨r, hX, hY⟩ := ih (m + 1) (by omega) (f + mr_sf (fun j => wo (5 * m + j)) l 0)
        refine ⟨r, fun post hp => br_f h ⟨hi, br_f t ⟨hi, br_t g ⟨_, mr_sumX d x dw so go le th wo (by omega) hl el l 0 (Nat.zero_add l) 0 _ ?_⟩⟩⟩, fun post hp => br_f h ⟨_, mr_sumY2 d x dw so go le th wo (by omega) hl el t g post _ l 0 (Nat.zero_add l) f (hY post hp)⟩⟩
        exact nm_r (congrArg (f + ·) (Int32.zero_add _)) (nm_r (nI_1 m) (hX post hp))
      · obtain ⟨r, hX, hY⟩ := ih (m + 1) (by omega) f
        exact ⟨r, fun post hp => br_f h ⟨hi, br_f t ⟨hi, br_f g (nm_r (nI_1 m) (hX post hp))⟩⟩, fun post hp => br_f h ⟨_, mr_sumY0 d x dw so go le th wo (by omega) (fun z => g z.2) post _ f (hY post hp) 5 0 rfl⟩⟩
end
theorem i_vc_sum {k : Nat} {u : SX} {v : SY} (I : i_Rel k u v) (hk : k + 4 ≤ 2048) (v1 : Int32) : wpX_sum (fun r => wpY_sum (fun r' => r' = r ∧ i_Rel (k + 4) u v) v v1) u v1 := by
  have J : i_Rel (k + 4) u v := i_up I
  obtain ⟨d, c, x, dw, so, go, le, th, wo, rfl, rfl, hd, hc, hm⟩ := I
  obtain ⟨r, hX, hY⟩ := mr_sum (nI d) x dw so go le th wo hc hm v1 c 0 (Nat.zero_add c) 0
  exact ⟨_, hX _ ⟨_, hY _ ⟨rfl, J⟩⟩⟩
