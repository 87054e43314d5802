/-! ===== the simulations, still open ===== -/
theorem sim_feed (a1 : Int32) (a2 : Int32) (a3 : Int32) (a4 : Int32) (a5 : Int32) {σ τ : St} (h : Rel σ τ) : w_X10_feed a1 a2 a3 a4 a5 σ (fun r σ' => w_X11_feed a1 a2 a3 a4 a5 τ (fun r' τ' => r = r' ∧ Rel σ' τ')) := by
  sorry
theorem sim_law (a1 : Int32) (a2 : Int32) {σ τ : St} (h : Rel σ τ) : w_X10_law a1 a2 σ (fun r σ' => w_X11_law a1 a2 τ (fun r' τ' => r = r' ∧ Rel σ' τ')) := by
  sorry
theorem sim_rule (a1 : Int32) (a2 : Int32) {σ τ : St} (h : Rel σ τ) : w_X10_rule a1 a2 σ (fun r σ' => w_X11_rule a1 a2 τ (fun r' τ' => r = r' ∧ Rel σ' τ')) := by
  sorry
theorem sim_way (a1 : Int32) (a2 : Int32) (a3 : Int32) {σ τ : St} (h : Rel σ τ) : w_X10_way a1 a2 a3 σ (fun r σ' => w_X11_way a1 a2 a3 τ (fun r' τ' => r = r' ∧ Rel σ' τ')) := by
  sorry
theorem sim_plane (a1 : Int32) (a2 : Int32) (a3 : Int32) (a4 : Int32) {σ τ : St} (h : Rel σ τ) : w_X10_plane a1 a2 a3 a4 σ (fun r σ' => w_X11_plane a1 a2 a3 a4 τ (fun r' τ' => r = r' ∧ Rel σ' τ')) := by
  sorry
theorem sim_flight (a1 : Int32) (a2 : Int32) (a3 : Int32) (a4 : Int32) {σ τ : St} (h : Rel σ τ) : w_X10_flight a1 a2 a3 a4 σ (fun r σ' => w_X11_flight a1 a2 a3 a4 τ (fun r' τ' => r = r' ∧ Rel σ' τ')) := by
  sorry
theorem sim_cancel (a1 : Int32) {σ τ : St} (h : Rel σ τ) : w_X10_cancel a1 σ (fun r σ' => w_X11_cancel a1 τ (fun r' τ' => r = r' ∧ Rel σ' τ')) := by
  sorry
theorem sim_storm (a1 : Int32) (a2 : Int32) (a3 : Int32) {σ τ : St} (h : Rel σ τ) : w_X10_storm a1 a2 a3 σ (fun r σ' => w_X11_storm a1 a2 a3 τ (fun r' τ' => r = r' ∧ Rel σ' τ')) := by
  sorry
theorem sim_clock (a1 : Int32) {σ τ : St} (h : Rel σ τ) : w_X10_clock a1 σ (fun r σ' => w_X11_clock a1 τ (fun r' τ' => r = r' ∧ Rel σ' τ')) := by
  sorry
theorem sim_plan  {σ τ : St} (h : Rel σ τ) : w_X10_plan σ (fun r σ' => w_X11_plan τ (fun r' τ' => r = r' ∧ Rel σ' τ')) := by
  sorry
theorem sim_replan  {σ τ : St} (h : Rel σ τ) : w_X10_replan σ (fun r σ' => w_X11_replan τ (fun r' τ' => r = r' ∧ Rel σ' τ')) := by
  sorry
theorem sim_fits  {σ τ : St} (h : Rel σ τ) : w_X10_fits σ (fun r σ' => w_X11_fits τ (fun r' τ' => r = r' ∧ Rel σ' τ')) := by
  sorry
theorem sim_on (a1 : Int32) {σ τ : St} (h : Rel σ τ) : w_X10_on a1 σ (fun r σ' => w_X11_on a1 τ (fun r' τ' => r = r' ∧ Rel σ' τ')) := by
  sorry
theorem sim_move (a1 : Int32) (a2 : Int32) (a3 : Int32) {σ τ : St} (h : Rel σ τ) : w_X10_move a1 a2 a3 σ (fun r σ' => w_X11_move a1 a2 a3 τ (fun r' τ' => r = r' ∧ Rel σ' τ')) := by
  sorry
theorem sim_offer (a1 : Int32) (a2 : Int32) (a3 : Int32) (a4 : Int32) {σ τ : St} (h : Rel σ τ) : w_X10_offer a1 a2 a3 a4 σ (fun r σ' => w_X11_offer a1 a2 a3 a4 τ (fun r' τ' => r = r' ∧ Rel σ' τ')) := by
  sorry
theorem sim_take (a1 : Int32) (a2 : Int32) {σ τ : St} (h : Rel σ τ) : w_X10_take a1 a2 σ (fun r σ' => w_X11_take a1 a2 τ (fun r' τ' => r = r' ∧ Rel σ' τ')) := by
  sorry
theorem sim_told (a1 : Int32) (a2 : Int32) {σ τ : St} (h : Rel σ τ) : w_X10_told a1 a2 σ (fun r σ' => w_X11_told a1 a2 τ (fun r' τ' => r = r' ∧ Rel σ' τ')) := by
  sorry
theorem sim_bill (a1 : Int32) {σ τ : St} (h : Rel σ τ) : w_X10_bill a1 σ (fun r σ' => w_X11_bill a1 τ (fun r' τ' => r = r' ∧ Rel σ' τ')) := by
  sorry
theorem sim_look (a1 : Int32) (a2 : Int32) {σ τ : St} (h : Rel σ τ) : w_X10_look a1 a2 σ (fun r σ' => w_X11_look a1 a2 τ (fun r' τ' => r = r' ∧ Rel σ' τ')) := by
  sorry
theorem sim_count (a1 : Int32) {σ τ : St} (h : Rel σ τ) : w_X10_count a1 σ (fun r σ' => w_X11_count a1 τ (fun r' τ' => r = r' ∧ Rel σ' τ')) := by
  sorry
theorem rel_init : Rel elSt (modSt 7) := by
  sorry
