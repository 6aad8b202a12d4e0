/-! residuals: class and reference -/
theorem sq_lt {m y x : Nat} (hm : m = 4 ∨ m = 8) (hy : y < m) (hx : x < m) : y * m + x < 64 ∧ y * m + x < m * m := by
  rcases hm with rfl | rfl <;> omega
theorem q_place (sd md sk : Int32) (x0 y0 x y : Nat) : fLF_placeInPicture (nI x0) (nI y0) sd md sk (nI x) (nI y) = some (nI (16 * (y0 + y) + x0 + x)) := by
  unfold fLF_placeInPicture fIP_placeOf
  simp only [e_b1]
  rw [nI_add, nI_add, show (16 : Int32) = nI 16 from rfl, pk_mul, nI_add]
  congr 2
  omega
theorem q_scaleX (md sk : Int32) (lv cf : Nat → Int32) {m x0 y0 q : Nat} (hm : m = 4 ∨ m = 8) (hx : x0 + m ≤ 16) (hy : y0 + m ≤ 16) (hq : q ≤ 51) : fRS_scaleLevels (nI x0) (nI y0) (nI m) md sk lv cf (nI q) = some (d_put m (fun y x => y * m + x) (fun y x => r_coef lv q m x0 y0 x y) cf) := by
  have e1 : (if nI m = (4 : Int32) then some (1 : Int32) else some (2 : Int32)) = some (if m = 4 then 1 else 2) := by
    rcases hm with rfl | rfl <;> rfl
  have eq6 : nI q / (6 : Int32) = nI (q / 6) := pk_div (d := 6) (by omega) (by omega) (by omega)
  have er6 : nI q - nI q / (6 : Int32) * (6 : Int32) = nI (q % 6) := pk_rem (d := 6) (by omega) (by omega) (by omega)
  unfold fRS_scaleLevels
  rw [e1]
  simp only [e_b1, e_lt]
  have inner : ∀ y, y < m → ∀ g, ip_lp2 (fRS_scaleLevels_B36 (nI x0) (nI y0) (nI m) md sk lv (nI q) (if m = 4 then 1 else 2) ((1 : Int32) <<< (((if m = 4 then 1 else 2) - 1) &&& 31)) (nI y)) 1000 (nI 0) g = some (nI m, s_it (fun x g => upd g (y * m + x) (r_coef lv q m x0 y0 x y)) m 0 g) := by
    intro y hy2 g
    refine lp_it _ (fun x g hx2 => ?_) (fun g => ?_) m 0 1000 g (by omega) (by rcases hm with rfl | rfl <;> omega)
    · unfold fRS_scaleLevels_B36
      rw [if_neg (nI_ge hx2 (by rcases hm with rfl | rfl <;> omega)), q_place]
      simp only [e_b1]
      rw [ip_ald_n (by omega) (by omega)]
      simp only [e_b1]
      rw [er6, eq6, ip_ald_n (by omega) (by omega)]
      simp only [e_b1, e_lt]
      rw [q_bring _ (by decide)]
      simp only [e_b1]
      rw [pk_mul, nI_add, ip_ast_n (sq_lt hm hy2 hx2).1 (by omega)]
      simp only [e_b1, nI_1]
      congr 4
      unfold r_coef
      rcases hm with rfl | rfl <;> rfl
    · unfold fRS_scaleLevels_B36
      rw [if_pos (nI_le (Nat.le_refl _) (by rcases hm with rfl | rfl <;> omega))]
  have outer : ip_lp2 (fRS_scaleLevels_B24 (nI x0) (nI y0) (nI m) md sk lv (nI q) (if m = 4 then 1 else 2) ((1 : Int32) <<< (((if m = 4 then 1 else 2) - 1) &&& 31))) 1000 (nI 0) cf = some (nI m, d_put m (fun y x => y * m + x) (fun y x => r_coef lv q m x0 y0 x y) cf) := by
    refine lp_it _ (fun y g hy2 => ?_) (fun g => ?_) m 0 1000 cf (by omega) (by rcases hm with rfl | rfl <;> omega)
    · unfold fRS_scaleLevels_B24
      rw [if_neg (nI_ge hy2 (by rcases hm with rfl | rfl <;> omega)), show (0 : Int32) = nI 0 from rfl, inner y hy2 g]
      simp only [e_b2, e_lt, nI_1]
    · unfold fRS_scaleLevels_B24
      rw [if_pos (nI_le (Nat.le_refl _) (by rcases hm with rfl | rfl <;> omega))]
  rw [show (0 : Int32) = nI 0 from rfl, outer]
  rfl
theorem q_colX (cf bt : Nat → Int32) {co : Nat → Nat → Int32} {m : Nat} (hm : m = 4 ∨ m = 8) (hc : ∀ y x, y < m → x < m → cf (y * m + x) = co x y) : fRS_goThroughColumns cf bt (nI m) = some (d_put m (fun y x => y * m + x) (fun y x => r_half m co x y) bt) := by
  have hmb : m ≤ 8 := by rcases hm with rfl | rfl <;> omega
  have sum : ∀ y x, y < m → x < m → ip_lp2 (fRS_goThroughColumns_B21 cf (nI m) (nI y) (nI x)) 1000 64 (nI 0) = some (s_it (fun k s => s + r_mat m k y * co x k) m 0 64, nI m) := by
    intro y x hy hx
    refine lp_sum (fun k => r_mat m k y * co x k) (fun k a hk => ?_) (fun a => ?_) m 0 1000 64 (by omega) (by omega)
    · unfold fRS_goThroughColumns_B21
      rw [if_neg (nI_ge hk (by omega)), q_matX hm hk hy]
      simp only [e_b1]
      rw [pk_mul, nI_add, ip_ald_n (sq_lt hm hk hx).1 (by omega), hc k x hk hx]
      simp only [e_b1, e_lt, nI_1]
    · unfold fRS_goThroughColumns_B21
      rw [if_pos (nI_le (Nat.le_refl _) (by omega))]
  have inner : ∀ y, y < m → ∀ g, ip_lp2 (fRS_goThroughColumns_B9 cf (nI m) (nI y)) 1000 (nI 0) g = some (nI m, s_it (fun x g => upd g (y * m + x) (r_half m co x y)) m 0 g) := by
    intro y hy g
    refine lp_it _ (fun x g hx => ?_) (fun g => ?_) m 0 1000 g (by omega) (by omega)
    · unfold fRS_goThroughColumns_B9
      rw [if_neg (nI_ge hx (by omega)), show (0 : Int32) = nI 0 from rfl, sum y x hy hx]
      simp only [e_b2]
      rw [q_bring _ (by decide)]
      simp only [e_b1]
      rw [pk_mul, nI_add, ip_ast_n (sq_lt hm hy hx).1 (by omega)]
      simp only [e_b1, e_lt, nI_1]
      rfl
    · unfold fRS_goThroughColumns_B9
      rw [if_pos (nI_le (Nat.le_refl _) (by omega))]
  have outer : ip_lp2 (fRS_goThroughColumns_B2 cf (nI m)) 1000 (nI 0) bt = some (nI m, d_put m (fun y x => y * m + x) (fun y x => r_half m co x y) bt) := by
    refine lp_it _ (fun y g hy => ?_) (fun g => ?_) m 0 1000 bt (by omega) (by omega)
    · unfold fRS_goThroughColumns_B2
      rw [if_neg (nI_ge hy (by omega)), show (0 : Int32) = nI 0 from rfl, inner y hy g]
      simp only [e_b2, e_lt, nI_1]
    · unfold fRS_goThroughColumns_B2
      rw [if_pos (nI_le (Nat.le_refl _) (by omega))]
  unfold fRS_goThroughColumns
  rw [show (0 : Int32) = nI 0 from rfl, outer]
  rfl
theorem q_rowX (bt rs : Nat → Int32) {hf : Nat → Nat → Int32} {m : Nat} (hm : m = 4 ∨ m = 8) (hc : ∀ y x, y < m → x < m → bt (y * m + x) = hf x y) : fRS_goThroughRows bt rs (nI m) = some (d_put m (fun y x => y * m + x) (fun y x => (s_it (fun k s => s + r_mat m k x * hf k y) m 0 2048) >>> ((12 : Int32) &&& 31)) rs) := by
  have hmb : m ≤ 8 := by rcases hm with rfl | rfl <;> omega
  have sum : ∀ y x, y < m → x < m → ip_lp2 (fRS_goThroughRows_B22 bt (nI m) (nI y) (nI x)) 1000 2048 (nI 0) = some (s_it (fun k s => s + r_mat m k x * hf k y) m 0 2048, nI m) := by
    intro y x hy hx
    refine lp_sum (fun k => r_mat m k x * hf k y) (fun k a hk => ?_) (fun a => ?_) m 0 1000 2048 (by omega) (by omega)
    · unfold fRS_goThroughRows_B22
      rw [if_neg (nI_ge hk (by omega)), q_matX hm hk hx]
      simp only [e_b1]
      rw [pk_mul, nI_add, ip_ald_n (sq_lt hm hy hk).1 (by omega), hc y k hy hk]
      simp only [e_b1, e_lt, nI_1]
    · unfold fRS_goThroughRows_B22
      rw [if_pos (nI_le (Nat.le_refl _) (by omega))]
  have inner : ∀ y, y < m → ∀ g, ip_lp2 (fRS_goThroughRows_B9 bt (nI m) (nI y)) 1000 (nI 0) g = some (nI m, s_it (fun x g => upd g (y * m + x) ((s_it (fun k s => s + r_mat m k x * hf k y) m 0 2048) >>> ((12 : Int32) &&& 31))) m 0 g) := by
    intro y hy g
    refine lp_it _ (fun x g hx => ?_) (fun g => ?_) m 0 1000 g (by omega) (by omega)
    · unfold fRS_goThroughRows_B9
      rw [if_neg (nI_ge hx (by omega)), show (0 : Int32) = nI 0 from rfl, sum y x hy hx]
      simp only [e_b2]
      rw [pk_mul, nI_add, ip_ast_n (sq_lt hm hy hx).1 (by omega)]
      simp only [e_b1, e_lt, nI_1]
    · unfold fRS_goThroughRows_B9
      rw [if_pos (nI_le (Nat.le_refl _) (by omega))]
  have outer : ip_lp2 (fRS_goThroughRows_B2 bt (nI m)) 1000 (nI 0) rs = some (nI m, d_put m (fun y x => y * m + x) (fun y x => (s_it (fun k s => s + r_mat m k x * hf k y) m 0 2048) >>> ((12 : Int32) &&& 31)) rs) := by
    refine lp_it _ (fun y g hy => ?_) (fun g => ?_) m 0 1000 rs (by omega) (by omega)
    · unfold fRS_goThroughRows_B2
      rw [if_neg (nI_ge hy (by omega)), show (0 : Int32) = nI 0 from rfl, inner y hy g]
      simp only [e_b2, e_lt, nI_1]
    · unfold fRS_goThroughRows_B2
      rw [if_pos (nI_le (Nat.le_refl _) (by omega))]
  unfold fRS_goThroughRows
  rw [show (0 : Int32) = nI 0 from rfl, outer]
  rfl
theorem q_skipX (cf rs : Nat → Int32) {m : Nat} (hm : m = 4 ∨ m = 8) : fRS_scaleWithoutMatrix cf rs (nI m) = some (s_it (fun i g => upd g i (((cf i * 128) + 2048) >>> ((12 : Int32) &&& 31))) (m * m) 0 rs) := by
  have hmb : m * m ≤ 64 := by rcases hm with rfl | rfl <;> omega
  have outer : ip_lp2 (fRS_scaleWithoutMatrix_B2 cf (nI m)) 1000 (nI 0) rs = some (nI (m * m), s_it (fun i g => upd g i (((cf i * 128) + 2048) >>> ((12 : Int32) &&& 31))) (m * m) 0 rs) := by
    refine lp_it _ (fun i g hi => ?_) (fun g => ?_) (m * m) 0 1000 rs (by omega) (by omega)
    · unfold fRS_scaleWithoutMatrix_B2
      rw [pk_mul, if_neg (nI_ge hi (by omega)), ip_ald_n (by omega) (by omega)]
      simp only [e_b1]
      rw [ip_ast_n (by omega) (by omega)]
      simp only [e_b1, e_lt, nI_1]
    · unfold fRS_scaleWithoutMatrix_B2
      rw [pk_mul, if_pos (nI_le (Nat.le_refl _) (by omega))]
  unfold fRS_scaleWithoutMatrix
  rw [show (0 : Int32) = nI 0 from rfl, outer]
  rfl
theorem q_resX (md sk : Int32) (lv cf bt rs : Nat → Int32) {m x0 y0 q : Nat} (hm : m = 4 ∨ m = 8) (hx : x0 + m ≤ 16) (hy : y0 + m ≤ 16) (hq : q ≤ 51) : ∃ cf1 bt1 rs1 : Nat → Int32, fRS_compute (nI x0) (nI y0) (nI m) md sk lv cf bt rs (nI q) = some (cf1, bt1, rs1) ∧ ∀ y x, y < m → x < m → rs1 (y * m + x) = r_res m sk (fun x y => r_coef lv q m x0 y0 x y) x y := by
  have hcf : ∀ y x, y < m → x < m → d_put m (fun y x => y * m + x) (fun y x => r_coef lv q m x0 y0 x y) cf (y * m + x) = r_coef lv q m x0 y0 x y := fun y x h1 h2 => d_put_in h1 h2 (fun y2 x2 g1 g2 e => sq_inj h2 g2 e)
  unfold fRS_compute
  rw [q_scaleX md sk lv cf hm hx hy hq]
  simp only [e_b1]
  by_cases h0 : sk = 0
  · rw [if_pos h0, q_colX _ bt hm hcf]
    simp only [e_b1]
    rw [q_rowX _ rs hm (hf := fun x y => r_half m (fun x y => r_coef lv q m x0 y0 x y) x y) (fun y x h1 h2 => d_put_in h1 h2 (fun y2 x2 g1 g2 e => sq_inj h2 g2 e))]
    refine ⟨_, _, _, rfl, fun y x h1 h2 => ?_⟩
    rw [d_put_in (ix := fun y x => y * m + x) h1 h2 (fun y2 x2 g1 g2 e => sq_inj h2 g2 e)]
    unfold r_res
    rw [if_pos h0]
  · rw [if_neg h0, q_skipX _ rs hm]
    refine ⟨_, _, _, rfl, fun y x h1 h2 => ?_⟩
    rw [it_in (ix := fun i => i) (m * m) 0 rs (y * m + x) (by omega) (by have := (sq_lt hm h1 h2).2; omega) (fun x2 _ _ e => e), hcf y x h1 h2]
    unfold r_res
    rw [if_neg h0]
theorem q_cfT (z : Int32) {m : Nat} (hm : m = 4 ∨ m = 8) : ip_b1 (if nI m = (4 : Int32) then some ((z + (1 : Int32)) >>> ((1 : Int32) &&& 31)) else some ((z + (2 : Int32)) >>> ((2 : Int32) &&& 31))) (fun z9 => ip_b1 (fMO_held z9 (-32768 : Int32) (32767 : Int32)) (fun z10 => some z10)) = some (hold (if m = 4 then (z + 1) >>> ((1 : Int32) &&& 31) else (z + 2) >>> ((2 : Int32) &&& 31)) (-32768) 32767) := by
  have e1 : (if nI m = (4 : Int32) then some ((z + (1 : Int32)) >>> ((1 : Int32) &&& 31)) else some ((z + (2 : Int32)) >>> ((2 : Int32) &&& 31))) = some (if m = 4 then (z + 1) >>> ((1 : Int32) &&& 31) else (z + 2) >>> ((2 : Int32) &&& 31)) := by
    rcases hm with rfl | rfl
    · rw [if_pos (show nI 4 = (4 : Int32) from rfl), if_pos (show (4 : Nat) = 4 from rfl)]
    · rw [if_neg (show ¬ nI 8 = (4 : Int32) by decide), if_neg (show ¬ (8 : Nat) = 4 by decide)]
  rw [e1, e_b1, q_held, e_b1]
theorem q_coefM (a1 a2 a3 a4 a5 a6 a7 a8 a9 : Int32) {given left top sides lv four wave scale : Nat → Int32} (ht : TabOK four wave scale) {e m x0 y0 q x y : Nat} (he : e < 16) (hl : left e = nI x0) (htp : top e = nI y0) (hsd : sides e = nI m) (hg : given 0 = nI q) (hq : q ≤ 51) (hm : m = 4 ∨ m = 8) (hx0 : x0 + m ≤ 16) (hy0 : y0 + m ≤ 16) (hx : x < m) (hy : y < m) : fMO_coefficient a1 a2 a3 a4 a5 a6 a7 a8 a9 given left top sides lv scale (nI e) (nI x) (nI y) = some (r_coef lv q m x0 y0 x y) := by
  have ei : (((16 : Int32) * (nI y0 + nI y)) + nI x0) + nI x = nI (16 * (y0 + y) + x0 + x) := by
    rw [nI_add, show (16 : Int32) = nI 16 from rfl, pk_mul, nI_add, nI_add]
  have er : nI q - nI q / (6 : Int32) * (6 : Int32) = nI (q % 6) := pk_rem (d := 6) (by omega) (by omega) (by omega)
  have ed : nI q / (6 : Int32) = nI (q / 6) := pk_div (d := 6) (by omega) (by omega) (by omega)
  have h1 : ip_ald 16 top (nI e) = some (nI y0) := by rw [ip_ald_n he (by omega), htp]
  have h2 : ip_ald 16 left (nI e) = some (nI x0) := by rw [ip_ald_n he (by omega), hl]
  have h3 : ip_ald 256 lv (nI (16 * (y0 + y) + x0 + x)) = some (lv (16 * (y0 + y) + x0 + x)) := ip_ald_n (by omega) (by omega)
  have h4 : ip_ald 10 given (0 : Int32) = some (nI q) := by rw [e_ald 10 given 0 0 rfl (by omega) (by omega), hg]
  have h5 : ip_ald 6 scale (nI (q % 6)) = some (tb_scales (q % 6)) := by rw [ip_ald_n (by omega) (by omega), ht.2.2 _ (by omega)]
  have h6 : ip_ald 16 sides (nI e) = some (nI m) := by rw [ip_ald_n he (by omega), hsd]
  unfold fMO_coefficient
  rw [h1, e_b1, h2, e_b1, ei, h3, e_b1, h4, e_b1, er, h5, e_b1, e_b1, e_lt, h6, e_b1, ed]
  exact q_cfT _ hm
theorem q_halfM (a1 a2 a3 a4 a5 a6 a7 a8 a9 : Int32) {given left top sides lv four wave scale : Nat → Int32} (ht : TabOK four wave scale) {e m x0 y0 q x y : Nat} (he : e < 16) (hl : left e = nI x0) (htp : top e = nI y0) (hsd : sides e = nI m) (hg : given 0 = nI q) (hq : q ≤ 51) (hm : m = 4 ∨ m = 8) (hx0 : x0 + m ≤ 16) (hy0 : y0 + m ≤ 16) (hx : x < m) (hy : y < m) : fMO_half a1 a2 a3 a4 a5 a6 a7 a8 a9 given left top sides lv four wave scale (nI e) (nI x) (nI y) = some (r_half m (fun x y => r_coef lv q m x0 y0 x y) x y) := by
  have hmb : m ≤ 8 := by rcases hm with rfl | rfl <;> omega
  unfold fMO_half
  rw [ip_ald_n he (by omega), hsd]
  simp only [e_b1]
  have sum : ip_lp2 (fMO_half_B15 a1 a2 a3 a4 a5 a6 a7 a8 a9 given left top sides lv four wave scale (nI e) (nI x) (nI y) (nI m)) 1000 64 (nI 0) = some (s_it (fun k s => s + r_mat m k y * r_coef lv q m x0 y0 x k) m 0 64, nI m) := by
    refine lp_sum (fun k => r_mat m k y * r_coef lv q m x0 y0 x k) (fun k a hk => ?_) (fun a => ?_) m 0 1000 64 (by omega) (by omega)
    · unfold fMO_half_B15
      rw [if_neg (nI_ge hk (by omega)), q_matM a1 a2 a3 a4 a5 a6 a7 a8 a9 ht hm hk hy]
      simp only [e_b1]
      rw [q_coefM a1 a2 a3 a4 a5 a6 a7 a8 a9 ht he hl htp hsd hg hq hm hx0 hy0 hx hk]
      simp only [e_b1, e_lt, nI_1]
    · unfold fMO_half_B15
      rw [if_pos (nI_le (Nat.le_refl _) (by omega))]
  rw [show (0 : Int32) = nI 0 from rfl, sum]
  simp only [e_b2]
  rw [q_held]
  rfl
theorem q_resM (a1 a2 a3 a4 a5 a6 a7 a8 a9 : Int32) {given left top sides skips lv four wave scale : Nat → Int32} (ht : TabOK four wave scale) {e m x0 y0 q x y : Nat} (he : e < 16) (hl : left e = nI x0) (htp : top e = nI y0) (hsd : sides e = nI m) (hg : given 0 = nI q) (hq : q ≤ 51) (hm : m = 4 ∨ m = 8) (hx0 : x0 + m ≤ 16) (hy0 : y0 + m ≤ 16) (hx : x < m) (hy : y < m) : fMO_residual a1 a2 a3 a4 a5 a6 a7 a8 a9 given left top sides skips lv four wave scale (nI e) (nI x) (nI y) = some (r_res m (skips e) (fun x y => r_coef lv q m x0 y0 x y) x y) := by
  have hmb : m ≤ 8 := by rcases hm with rfl | rfl <;> omega
  unfold fMO_residual r_res
  rw [ip_ald_n he (by omega)]
  simp only [e_b1]
  by_cases h0 : skips e = 0
  · rw [if_pos h0, if_pos h0]
    have sum : ip_lp2 (fMO_residual_B36 a1 a2 a3 a4 a5 a6 a7 a8 a9 given left top sides lv four wave scale (nI e) (nI x) (nI y)) 1000 2048 (nI 0) = some (s_it (fun k s => s + r_mat m k x * r_half m (fun x y => r_coef lv q m x0 y0 x y) k y) m 0 2048, nI m) := by
      refine lp_sum (fun k => r_mat m k x * r_half m (fun x y => r_coef lv q m x0 y0 x y) k y) (fun k a hk => ?_) (fun a => ?_) m 0 1000 2048 (by omega) (by omega)
      · unfold fMO_residual_B36
        rw [ip_ald_n he (by omega), hsd]
        simp only [e_b1]
        rw [if_neg (nI_ge hk (by omega)), q_matM a1 a2 a3 a4 a5 a6 a7 a8 a9 ht hm hk hx]
        simp only [e_b1]
        rw [q_halfM a1 a2 a3 a4 a5 a6 a7 a8 a9 ht he hl htp hsd hg hq hm hx0 hy0 hk hy]
        simp only [e_b1, e_lt, nI_1]
      · unfold fMO_residual_B36
        rw [ip_ald_n he (by omega), hsd]
        simp only [e_b1]
        rw [if_pos (nI_le (Nat.le_refl _) (by omega))]
    rw [show (0 : Int32) = nI 0 from rfl, sum]
    rfl
  · rw [if_neg h0, if_neg h0, q_coefM a1 a2 a3 a4 a5 a6 a7 a8 a9 ht he hl htp hsd hg hq hm hx0 hy0 hx hy]
    rfl
