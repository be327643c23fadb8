/-! the law's helpers -/
theorem L_exchange_1 {S S' : mkS} {I I' : mkI} {L L' : mkL} {R R' : mkR} {n n' : Nat × Nat} {a1 : Int32} (hs : St S R) (e : F_X11_exchange (some 128) a1 (mk S I L R n) = some (.inl "java/lang/IllegalArgumentException", mk S' I' L' R' n')) : F_L_exchange (some 128) a1 (some 220) (mk S I L R n) = some (1, mk S' I' L' R' n') := by
  unfold F_L_exchange; rw [cv_128 hs, e]; simp
theorem L_exchange_0 {S S' : mkS} {I I' : mkI} {L L' : mkL} {R R' : mkR} {n n' : Nat × Nat} {a1 : Int32} (hs : St S R) (hs' : St S' R') {v : Int32} (e : F_X11_exchange (some 128) a1 (mk S I L R n) = some (.inr v, mk S' I' L' R' n')) : F_L_exchange (some 128) a1 (some 220) (mk S I L R n) = some (0, mk S' I' (up2 L' 220 0 v.toInt64) R' n') := by
  unfold F_L_exchange; rw [cv_128 hs, e]; dsimp only; rw [out_s hs', Option.bind_some]
theorem L_line_1 {S S' : mkS} {I I' : mkI} {L L' : mkL} {R R' : mkR} {n n' : Nat × Nat} {a1 : Int32} {a2 : Int32} (hs : St S R) (e : F_X11_line (some 128) a1 a2 (mk S I L R n) = some (.inl "java/util/NoSuchElementException", mk S' I' L' R' n')) : F_L_line (some 128) a1 a2 (some 220) (mk S I L R n) = some (1, mk S' I' L' R' n') := by
  unfold F_L_line; rw [cv_128 hs, e]; simp
theorem L_line_2 {S S' : mkS} {I I' : mkI} {L L' : mkL} {R R' : mkR} {n n' : Nat × Nat} {a1 : Int32} {a2 : Int32} (hs : St S R) (e : F_X11_line (some 128) a1 a2 (mk S I L R n) = some (.inl "java/lang/IllegalArgumentException", mk S' I' L' R' n')) : F_L_line (some 128) a1 a2 (some 220) (mk S I L R n) = some (2, mk S' I' L' R' n') := by
  unfold F_L_line; rw [cv_128 hs, e]; simp
theorem L_line_0 {S S' : mkS} {I I' : mkI} {L L' : mkL} {R R' : mkR} {n n' : Nat × Nat} {a1 : Int32} {a2 : Int32} (hs : St S R) (hs' : St S' R') {v : Int32} (e : F_X11_line (some 128) a1 a2 (mk S I L R n) = some (.inr v, mk S' I' L' R' n')) : F_L_line (some 128) a1 a2 (some 220) (mk S I L R n) = some (0, mk S' I' (up2 L' 220 0 v.toInt64) R' n') := by
  unfold F_L_line; rw [cv_128 hs, e]; dsimp only; rw [out_s hs', Option.bind_some]
theorem L_cord_1 {S S' : mkS} {I I' : mkI} {L L' : mkL} {R R' : mkR} {n n' : Nat × Nat} {a1 : Int32} {a2 : Int32} (hs : St S R) (e : F_X11_cord (some 128) a1 a2 (mk S I L R n) = some (.inl "java/util/NoSuchElementException", mk S' I' L' R' n')) : F_L_cord (some 128) a1 a2 (some 220) (mk S I L R n) = some (1, mk S' I' L' R' n') := by
  unfold F_L_cord; rw [cv_128 hs, e]; simp
theorem L_cord_2 {S S' : mkS} {I I' : mkI} {L L' : mkL} {R R' : mkR} {n n' : Nat × Nat} {a1 : Int32} {a2 : Int32} (hs : St S R) (e : F_X11_cord (some 128) a1 a2 (mk S I L R n) = some (.inl "java/lang/IllegalArgumentException", mk S' I' L' R' n')) : F_L_cord (some 128) a1 a2 (some 220) (mk S I L R n) = some (2, mk S' I' L' R' n') := by
  unfold F_L_cord; rw [cv_128 hs, e]; simp
theorem L_cord_0 {S S' : mkS} {I I' : mkI} {L L' : mkL} {R R' : mkR} {n n' : Nat × Nat} {a1 : Int32} {a2 : Int32} (hs : St S R) (hs' : St S' R') {v : Int32} (e : F_X11_cord (some 128) a1 a2 (mk S I L R n) = some (.inr v, mk S' I' L' R' n')) : F_L_cord (some 128) a1 a2 (some 220) (mk S I L R n) = some (0, mk S' I' (up2 L' 220 0 v.toInt64) R' n') := by
  unfold F_L_cord; rw [cv_128 hs, e]; dsimp only; rw [out_s hs', Option.bind_some]
theorem L_call_1 {S S' : mkS} {I I' : mkI} {L L' : mkL} {R R' : mkR} {n n' : Nat × Nat} {a1 : Int32} {a2 : Int32} (hs : St S R) (e : F_X11_call (some 128) a1 a2 (mk S I L R n) = some (.inl "java/util/NoSuchElementException", mk S' I' L' R' n')) : F_L_call (some 128) a1 a2 (some 220) (mk S I L R n) = some (1, mk S' I' L' R' n') := by
  unfold F_L_call; rw [cv_128 hs, e]; simp
theorem L_call_2 {S S' : mkS} {I I' : mkI} {L L' : mkL} {R R' : mkR} {n n' : Nat × Nat} {a1 : Int32} {a2 : Int32} (hs : St S R) (e : F_X11_call (some 128) a1 a2 (mk S I L R n) = some (.inl "java/lang/IllegalArgumentException", mk S' I' L' R' n')) : F_L_call (some 128) a1 a2 (some 220) (mk S I L R n) = some (2, mk S' I' L' R' n') := by
  unfold F_L_call; rw [cv_128 hs, e]; simp
theorem L_call_0 {S S' : mkS} {I I' : mkI} {L L' : mkL} {R R' : mkR} {n n' : Nat × Nat} {a1 : Int32} {a2 : Int32} (hs : St S R) (hs' : St S' R') {v : Int32} (e : F_X11_call (some 128) a1 a2 (mk S I L R n) = some (.inr v, mk S' I' L' R' n')) : F_L_call (some 128) a1 a2 (some 220) (mk S I L R n) = some (0, mk S' I' (up2 L' 220 0 v.toInt64) R' n') := by
  unfold F_L_call; rw [cv_128 hs, e]; dsimp only; rw [out_s hs', Option.bind_some]
theorem L_likes_1 {S S' : mkS} {I I' : mkI} {L L' : mkL} {R R' : mkR} {n n' : Nat × Nat} {a1 : Int32} {a2 : Int32} (hs : St S R) (e : F_X11_likes (some 128) a1 a2 (mk S I L R n) = some (.inl "java/util/NoSuchElementException", mk S' I' L' R' n')) : F_L_likes (some 128) a1 a2 (some 220) (mk S I L R n) = some (1, mk S' I' L' R' n') := by
  unfold F_L_likes; rw [cv_128 hs, e]; simp
theorem L_likes_0 {S S' : mkS} {I I' : mkI} {L L' : mkL} {R R' : mkR} {n n' : Nat × Nat} {a1 : Int32} {a2 : Int32} (hs : St S R) (hs' : St S' R') {v : Int32} (e : F_X11_likes (some 128) a1 a2 (mk S I L R n) = some (.inr v, mk S' I' L' R' n')) : F_L_likes (some 128) a1 a2 (some 220) (mk S I L R n) = some (0, mk S' I' (up2 L' 220 0 v.toInt64) R' n') := by
  unfold F_L_likes; rw [cv_128 hs, e]; dsimp only; rw [out_s hs', Option.bind_some]
theorem L_comesTo_1 {S S' : mkS} {I I' : mkI} {L L' : mkL} {R R' : mkR} {n n' : Nat × Nat} {a1 : Int32} {a2 : Int32} (hs : St S R) (e : F_X11_comesTo (some 128) a1 a2 (mk S I L R n) = some (.inl "java/util/NoSuchElementException", mk S' I' L' R' n')) : F_L_comesTo (some 128) a1 a2 (some 220) (mk S I L R n) = some (1, mk S' I' L' R' n') := by
  unfold F_L_comesTo; rw [cv_128 hs, e]; simp
theorem L_comesTo_2 {S S' : mkS} {I I' : mkI} {L L' : mkL} {R R' : mkR} {n n' : Nat × Nat} {a1 : Int32} {a2 : Int32} (hs : St S R) (e : F_X11_comesTo (some 128) a1 a2 (mk S I L R n) = some (.inl "java/lang/IllegalArgumentException", mk S' I' L' R' n')) : F_L_comesTo (some 128) a1 a2 (some 220) (mk S I L R n) = some (2, mk S' I' L' R' n') := by
  unfold F_L_comesTo; rw [cv_128 hs, e]; simp
theorem L_comesTo_0 {S S' : mkS} {I I' : mkI} {L L' : mkL} {R R' : mkR} {n n' : Nat × Nat} {a1 : Int32} {a2 : Int32} (hs : St S R) (hs' : St S' R') {v : Int32} (e : F_X11_comesTo (some 128) a1 a2 (mk S I L R n) = some (.inr v, mk S' I' L' R' n')) : F_L_comesTo (some 128) a1 a2 (some 220) (mk S I L R n) = some (0, mk S' I' (up2 L' 220 0 v.toInt64) R' n') := by
  unfold F_L_comesTo; rw [cv_128 hs, e]; dsimp only; rw [out_s hs', Option.bind_some]
theorem L_door_1 {S S' : mkS} {I I' : mkI} {L L' : mkL} {R R' : mkR} {n n' : Nat × Nat} {a1 : Int32} (hs : St S R) (e : F_X11_door (some 128) a1 (mk S I L R n) = some (.inl "java/util/NoSuchElementException", mk S' I' L' R' n')) : F_L_door (some 128) a1 (some 220) (mk S I L R n) = some (1, mk S' I' L' R' n') := by
  unfold F_L_door; rw [cv_128 hs, e]; simp
theorem L_door_0 {S S' : mkS} {I I' : mkI} {L L' : mkL} {R R' : mkR} {n n' : Nat × Nat} {a1 : Int32} (hs : St S R) (hs' : St S' R') {v : Int32} (e : F_X11_door (some 128) a1 (mk S I L R n) = some (.inr v, mk S' I' L' R' n')) : F_L_door (some 128) a1 (some 220) (mk S I L R n) = some (0, mk S' I' (up2 L' 220 0 v.toInt64) R' n') := by
  unfold F_L_door; rw [cv_128 hs, e]; dsimp only; rw [out_s hs', Option.bind_some]
theorem L_minutes_1 {S S' : mkS} {I I' : mkI} {L L' : mkL} {R R' : mkR} {n n' : Nat × Nat} {a1 : Int32} (hs : St S R) (e : F_X11_minutes (some 128) a1 (mk S I L R n) = some (.inl "java/lang/IllegalArgumentException", mk S' I' L' R' n')) : F_L_minutes (some 128) a1 (some 220) (mk S I L R n) = some (1, mk S' I' L' R' n') := by
  unfold F_L_minutes; rw [cv_128 hs, e]; simp
theorem L_minutes_0 {S S' : mkS} {I I' : mkI} {L L' : mkL} {R R' : mkR} {n n' : Nat × Nat} {a1 : Int32} (hs : St S R) (hs' : St S' R') {v : Int32} (e : F_X11_minutes (some 128) a1 (mk S I L R n) = some (.inr v, mk S' I' L' R' n')) : F_L_minutes (some 128) a1 (some 220) (mk S I L R n) = some (0, mk S' I' (up2 L' 220 0 v.toInt64) R' n') := by
  unfold F_L_minutes; rw [cv_128 hs, e]; dsimp only; rw [out_s hs', Option.bind_some]
theorem L_undo_1 {S S' : mkS} {I I' : mkI} {L L' : mkL} {R R' : mkR} {n n' : Nat × Nat} {a1 : Int32} (hs : St S R) (e : F_X11_undo (some 128) a1 (mk S I L R n) = some (.inl "java/lang/IllegalArgumentException", mk S' I' L' R' n')) : F_L_undo (some 128) a1 (some 220) (mk S I L R n) = some (1, mk S' I' L' R' n') := by
  unfold F_L_undo; rw [cv_128 hs, e]; simp
theorem L_undo_0 {S S' : mkS} {I I' : mkI} {L L' : mkL} {R R' : mkR} {n n' : Nat × Nat} {a1 : Int32} (hs : St S R) (hs' : St S' R') {v : Int32} (e : F_X11_undo (some 128) a1 (mk S I L R n) = some (.inr v, mk S' I' L' R' n')) : F_L_undo (some 128) a1 (some 220) (mk S I L R n) = some (0, mk S' I' (up2 L' 220 0 v.toInt64) R' n') := by
  unfold F_L_undo; rw [cv_128 hs, e]; dsimp only; rw [out_s hs', Option.bind_some]
theorem L_judge_1 {S S' : mkS} {I I' : mkI} {L L' : mkL} {R R' : mkR} {n n' : Nat × Nat} {a1 : Int32} {a2 : Int32} (hs : St S R) (e : F_X11_judge (some 128) a1 a2 (mk S I L R n) = some (.inl "java/util/NoSuchElementException", mk S' I' L' R' n')) : F_L_judge (some 128) a1 a2 (some 220) (mk S I L R n) = some (1, mk S' I' L' R' n') := by
  unfold F_L_judge; rw [cv_128 hs, e]; simp
theorem L_judge_2 {S S' : mkS} {I I' : mkI} {L L' : mkL} {R R' : mkR} {n n' : Nat × Nat} {a1 : Int32} {a2 : Int32} (hs : St S R) (e : F_X11_judge (some 128) a1 a2 (mk S I L R n) = some (.inl "java/lang/IllegalStateException", mk S' I' L' R' n')) : F_L_judge (some 128) a1 a2 (some 220) (mk S I L R n) = some (2, mk S' I' L' R' n') := by
  unfold F_L_judge; rw [cv_128 hs, e]; simp
theorem L_judge_3 {S S' : mkS} {I I' : mkI} {L L' : mkL} {R R' : mkR} {n n' : Nat × Nat} {a1 : Int32} {a2 : Int32} (hs : St S R) (e : F_X11_judge (some 128) a1 a2 (mk S I L R n) = some (.inl "java/lang/IllegalArgumentException", mk S' I' L' R' n')) : F_L_judge (some 128) a1 a2 (some 220) (mk S I L R n) = some (3, mk S' I' L' R' n') := by
  unfold F_L_judge; rw [cv_128 hs, e]; simp
theorem L_judge_0 {S S' : mkS} {I I' : mkI} {L L' : mkL} {R R' : mkR} {n n' : Nat × Nat} {a1 : Int32} {a2 : Int32} (hs : St S R) (hs' : St S' R') {v : Int32} (e : F_X11_judge (some 128) a1 a2 (mk S I L R n) = some (.inr v, mk S' I' L' R' n')) : F_L_judge (some 128) a1 a2 (some 220) (mk S I L R n) = some (0, mk S' I' (up2 L' 220 0 v.toInt64) R' n') := by
  unfold F_L_judge; rw [cv_128 hs, e]; dsimp only; rw [out_s hs', Option.bind_some]
theorem L_perform_1 {S S' : mkS} {I I' : mkI} {L L' : mkL} {R R' : mkR} {n n' : Nat × Nat} {a1 : Int32} (hs : St S R) (e : F_X11_perform (some 128) a1 (mk S I L R n) = some (.inl "java/util/NoSuchElementException", mk S' I' L' R' n')) : F_L_perform (some 128) a1 (some 220) (mk S I L R n) = some (1, mk S' I' L' R' n') := by
  unfold F_L_perform; rw [cv_128 hs, e]; simp
theorem L_perform_2 {S S' : mkS} {I I' : mkI} {L L' : mkL} {R R' : mkR} {n n' : Nat × Nat} {a1 : Int32} (hs : St S R) (e : F_X11_perform (some 128) a1 (mk S I L R n) = some (.inl "java/lang/IllegalStateException", mk S' I' L' R' n')) : F_L_perform (some 128) a1 (some 220) (mk S I L R n) = some (2, mk S' I' L' R' n') := by
  unfold F_L_perform; rw [cv_128 hs, e]; simp
theorem L_perform_0 {S S' : mkS} {I I' : mkI} {L L' : mkL} {R R' : mkR} {n n' : Nat × Nat} {a1 : Int32} (hs : St S R) (hs' : St S' R') {v : Int32} (e : F_X11_perform (some 128) a1 (mk S I L R n) = some (.inr v, mk S' I' L' R' n')) : F_L_perform (some 128) a1 (some 220) (mk S I L R n) = some (0, mk S' I' (up2 L' 220 0 v.toInt64) R' n') := by
  unfold F_L_perform; rw [cv_128 hs, e]; dsimp only; rw [out_s hs', Option.bind_some]
theorem L_spring_1 {S S' : mkS} {I I' : mkI} {L L' : mkL} {R R' : mkR} {n n' : Nat × Nat} {a1 : Int32} {a2 : Int32} (hs : St S R) (e : F_X11_spring (some 128) a1 a2 (mk S I L R n) = some (.inl "java/lang/IllegalArgumentException", mk S' I' L' R' n')) : F_L_spring (some 128) a1 a2 (some 220) (mk S I L R n) = some (1, mk S' I' L' R' n') := by
  unfold F_L_spring; rw [cv_128 hs, e]; simp
theorem L_spring_0 {S S' : mkS} {I I' : mkI} {L L' : mkL} {R R' : mkR} {n n' : Nat × Nat} {a1 : Int32} {a2 : Int32} (hs : St S R) (hs' : St S' R') {v : Int32} (e : F_X11_spring (some 128) a1 a2 (mk S I L R n) = some (.inr v, mk S' I' L' R' n')) : F_L_spring (some 128) a1 a2 (some 220) (mk S I L R n) = some (0, mk S' I' (up2 L' 220 0 v.toInt64) R' n') := by
  unfold F_L_spring; rw [cv_128 hs, e]; dsimp only; rw [out_s hs', Option.bind_some]
theorem L_lost_1 {S S' : mkS} {I I' : mkI} {L L' : mkL} {R R' : mkR} {n n' : Nat × Nat} {a1 : Int32} (hs : St S R) (e : F_X11_lost (some 128) a1 (mk S I L R n) = some (.inl "java/lang/IllegalArgumentException", mk S' I' L' R' n')) : F_L_lost (some 128) a1 (some 220) (mk S I L R n) = some (1, mk S' I' L' R' n') := by
  unfold F_L_lost; rw [cv_128 hs, e]; simp
theorem L_lost_0 {S S' : mkS} {I I' : mkI} {L L' : mkL} {R R' : mkR} {n n' : Nat × Nat} {a1 : Int32} (hs : St S R) (hs' : St S' R') {v : Int32} (e : F_X11_lost (some 128) a1 (mk S I L R n) = some (.inr v, mk S' I' L' R' n')) : F_L_lost (some 128) a1 (some 220) (mk S I L R n) = some (0, mk S' I' (up2 L' 220 0 v.toInt64) R' n') := by
  unfold F_L_lost; rw [cv_128 hs, e]; dsimp only; rw [out_s hs', Option.bind_some]
theorem L_together_1 {S S' : mkS} {I I' : mkI} {L L' : mkL} {R R' : mkR} {n n' : Nat × Nat} {a1 : Int32} {a2 : Int32} (hs : St S R) (e : F_X11_together (some 128) a1 a2 (mk S I L R n) = some (.inl "java/util/NoSuchElementException", mk S' I' L' R' n')) : F_L_together (some 128) a1 a2 (some 220) (mk S I L R n) = some (1, mk S' I' L' R' n') := by
  unfold F_L_together; rw [cv_128 hs, e]; simp
theorem L_together_2 {S S' : mkS} {I I' : mkI} {L L' : mkL} {R R' : mkR} {n n' : Nat × Nat} {a1 : Int32} {a2 : Int32} (hs : St S R) (e : F_X11_together (some 128) a1 a2 (mk S I L R n) = some (.inl "java/lang/IllegalArgumentException", mk S' I' L' R' n')) : F_L_together (some 128) a1 a2 (some 220) (mk S I L R n) = some (2, mk S' I' L' R' n') := by
  unfold F_L_together; rw [cv_128 hs, e]; simp
theorem L_together_0 {S S' : mkS} {I I' : mkI} {L L' : mkL} {R R' : mkR} {n n' : Nat × Nat} {a1 : Int32} {a2 : Int32} (hs : St S R) (hs' : St S' R') {v : Int32} (e : F_X11_together (some 128) a1 a2 (mk S I L R n) = some (.inr v, mk S' I' L' R' n')) : F_L_together (some 128) a1 a2 (some 220) (mk S I L R n) = some (0, mk S' I' (up2 L' 220 0 v.toInt64) R' n') := by
  unfold F_L_together; rw [cv_128 hs, e]; dsimp only; rw [out_s hs', Option.bind_some]
theorem L_weddings_1 {S S' : mkS} {I I' : mkI} {L L' : mkL} {R R' : mkR} {n n' : Nat × Nat} {a1 : Int32} (hs : St S R) (e : F_X11_weddings (some 128) a1 (mk S I L R n) = some (.inl "java/lang/IllegalArgumentException", mk S' I' L' R' n')) : F_L_weddings (some 128) a1 (some 220) (mk S I L R n) = some (1, mk S' I' L' R' n') := by
  unfold F_L_weddings; rw [cv_128 hs, e]; simp
theorem L_weddings_0 {S S' : mkS} {I I' : mkI} {L L' : mkL} {R R' : mkR} {n n' : Nat × Nat} {a1 : Int32} (hs : St S R) (hs' : St S' R') {v : Int32} (e : F_X11_weddings (some 128) a1 (mk S I L R n) = some (.inr v, mk S' I' L' R' n')) : F_L_weddings (some 128) a1 (some 220) (mk S I L R n) = some (0, mk S' I' (up2 L' 220 0 v.toInt64) R' n') := by
  unfold F_L_weddings; rw [cv_128 hs, e]; dsimp only; rw [out_s hs', Option.bind_some]
theorem L_busiest_1 {S S' : mkS} {I I' : mkI} {L L' : mkL} {R R' : mkR} {n n' : Nat × Nat} {a1 : Int32} (hs : St S R) (e : F_X11_busiest (some 128) a1 (mk S I L R n) = some (.inl "java/lang/IllegalArgumentException", mk S' I' L' R' n')) : F_L_busiest (some 128) a1 (some 220) (mk S I L R n) = some (1, mk S' I' L' R' n') := by
  unfold F_L_busiest; rw [cv_128 hs, e]; simp
theorem L_busiest_0 {S S' : mkS} {I I' : mkI} {L L' : mkL} {R R' : mkR} {n n' : Nat × Nat} {a1 : Int32} (hs : St S R) (hs' : St S' R') {v : Int32} (e : F_X11_busiest (some 128) a1 (mk S I L R n) = some (.inr v, mk S' I' L' R' n')) : F_L_busiest (some 128) a1 (some 220) (mk S I L R n) = some (0, mk S' I' (up2 L' 220 0 v.toInt64) R' n') := by
  unfold F_L_busiest; rw [cv_128 hs, e]; dsimp only; rw [out_s hs', Option.bind_some]
theorem L_hog_1 {S S' : mkS} {I I' : mkI} {L L' : mkL} {R R' : mkR} {n n' : Nat × Nat} {a1 : Int32} (hs : St S R) (e : F_X11_hog (some 128) a1 (mk S I L R n) = some (.inl "java/lang/IllegalArgumentException", mk S' I' L' R' n')) : F_L_hog (some 128) a1 (some 220) (mk S I L R n) = some (1, mk S' I' L' R' n') := by
  unfold F_L_hog; rw [cv_128 hs, e]; simp
theorem L_hog_0 {S S' : mkS} {I I' : mkI} {L L' : mkL} {R R' : mkR} {n n' : Nat × Nat} {a1 : Int32} (hs : St S R) (hs' : St S' R') {v : Int32} (e : F_X11_hog (some 128) a1 (mk S I L R n) = some (.inr v, mk S' I' L' R' n')) : F_L_hog (some 128) a1 (some 220) (mk S I L R n) = some (0, mk S' I' (up2 L' 220 0 v.toInt64) R' n') := by
  unfold F_L_hog; rw [cv_128 hs, e]; dsimp only; rw [out_s hs', Option.bind_some]
theorem L_best_1 {S S' : mkS} {I I' : mkI} {L L' : mkL} {R R' : mkR} {n n' : Nat × Nat} {a1 : Int32} (hs : St S R) (e : F_X11_best (some 128) a1 (mk S I L R n) = some (.inl "java/lang/IllegalArgumentException", mk S' I' L' R' n')) : F_L_best (some 128) a1 (some 220) (mk S I L R n) = some (1, mk S' I' L' R' n') := by
  unfold F_L_best; rw [cv_128 hs, e]; simp
theorem L_best_0 {S S' : mkS} {I I' : mkI} {L L' : mkL} {R R' : mkR} {n n' : Nat × Nat} {a1 : Int32} (hs : St S R) (hs' : St S' R') {v : Int32} (e : F_X11_best (some 128) a1 (mk S I L R n) = some (.inr v, mk S' I' L' R' n')) : F_L_best (some 128) a1 (some 220) (mk S I L R n) = some (0, mk S' I' (up2 L' 220 0 v.toInt64) R' n') := by
  unfold F_L_best; rw [cv_128 hs, e]; dsimp only; rw [out_s hs', Option.bind_some]
theorem L_bestBy_1 {S S' : mkS} {I I' : mkI} {L L' : mkL} {R R' : mkR} {n n' : Nat × Nat} {a1 : Int32} (hs : St S R) (e : F_X11_bestBy (some 128) a1 (mk S I L R n) = some (.inl "java/lang/IllegalArgumentException", mk S' I' L' R' n')) : F_L_bestBy (some 128) a1 (some 220) (mk S I L R n) = some (1, mk S' I' L' R' n') := by
  unfold F_L_bestBy; rw [cv_128 hs, e]; simp
theorem L_bestBy_0 {S S' : mkS} {I I' : mkI} {L L' : mkL} {R R' : mkR} {n n' : Nat × Nat} {a1 : Int32} (hs : St S R) (hs' : St S' R') {v : Int32} (e : F_X11_bestBy (some 128) a1 (mk S I L R n) = some (.inr v, mk S' I' L' R' n')) : F_L_bestBy (some 128) a1 (some 220) (mk S I L R n) = some (0, mk S' I' (up2 L' 220 0 v.toInt64) R' n') := by
  unfold F_L_bestBy; rw [cv_128 hs, e]; dsimp only; rw [out_s hs', Option.bind_some]
theorem L_atOnce_1 {S S' : mkS} {I I' : mkI} {L L' : mkL} {R R' : mkR} {n n' : Nat × Nat} {a1 : Int32} (hs : St S R) (e : F_X11_atOnce (some 128) a1 (mk S I L R n) = some (.inl "java/util/NoSuchElementException", mk S' I' L' R' n')) : F_L_atOnce (some 128) a1 (some 220) (mk S I L R n) = some (1, mk S' I' L' R' n') := by
  unfold F_L_atOnce; rw [cv_128 hs, e]; simp
theorem L_atOnce_2 {S S' : mkS} {I I' : mkI} {L L' : mkL} {R R' : mkR} {n n' : Nat × Nat} {a1 : Int32} (hs : St S R) (e : F_X11_atOnce (some 128) a1 (mk S I L R n) = some (.inl "java/lang/IllegalStateException", mk S' I' L' R' n')) : F_L_atOnce (some 128) a1 (some 220) (mk S I L R n) = some (2, mk S' I' L' R' n') := by
  unfold F_L_atOnce; rw [cv_128 hs, e]; simp
theorem L_atOnce_3 {S S' : mkS} {I I' : mkI} {L L' : mkL} {R R' : mkR} {n n' : Nat × Nat} {a1 : Int32} (hs : St S R) (e : F_X11_atOnce (some 128) a1 (mk S I L R n) = some (.inl "java/lang/IllegalArgumentException", mk S' I' L' R' n')) : F_L_atOnce (some 128) a1 (some 220) (mk S I L R n) = some (3, mk S' I' L' R' n') := by
  unfold F_L_atOnce; rw [cv_128 hs, e]; simp
theorem L_atOnce_0 {S S' : mkS} {I I' : mkI} {L L' : mkL} {R R' : mkR} {n n' : Nat × Nat} {a1 : Int32} (hs : St S R) (hs' : St S' R') {b : Bool} (e : F_X11_atOnce (some 128) a1 (mk S I L R n) = some (.inr (b2i b), mk S' I' L' R' n')) : F_L_atOnce (some 128) a1 (some 220) (mk S I L R n) = some (0, mk S' I' (up2 L' 220 0 (b2i b).toInt64) R' n') := by
  unfold F_L_atOnce; rw [cv_128 hs, e]; cases b <;> simp only [b2i, if_true, if_false, out_s hs', Option.bind_some] <;> rfl
theorem L_crossed_1 {S S' : mkS} {I I' : mkI} {L L' : mkL} {R R' : mkR} {n n' : Nat × Nat} {a1 : Int32} {a2 : Int32} (hs : St S R) (e : F_X11_crossed (some 128) a1 a2 (mk S I L R n) = some (.inl "java/util/NoSuchElementException", mk S' I' L' R' n')) : F_L_crossed (some 128) a1 a2 (some 220) (mk S I L R n) = some (1, mk S' I' L' R' n') := by
  unfold F_L_crossed; rw [cv_128 hs, e]; simp
theorem L_crossed_2 {S S' : mkS} {I I' : mkI} {L L' : mkL} {R R' : mkR} {n n' : Nat × Nat} {a1 : Int32} {a2 : Int32} (hs : St S R) (e : F_X11_crossed (some 128) a1 a2 (mk S I L R n) = some (.inl "java/lang/IllegalStateException", mk S' I' L' R' n')) : F_L_crossed (some 128) a1 a2 (some 220) (mk S I L R n) = some (2, mk S' I' L' R' n') := by
  unfold F_L_crossed; rw [cv_128 hs, e]; simp
theorem L_crossed_3 {S S' : mkS} {I I' : mkI} {L L' : mkL} {R R' : mkR} {n n' : Nat × Nat} {a1 : Int32} {a2 : Int32} (hs : St S R) (e : F_X11_crossed (some 128) a1 a2 (mk S I L R n) = some (.inl "java/lang/IllegalArgumentException", mk S' I' L' R' n')) : F_L_crossed (some 128) a1 a2 (some 220) (mk S I L R n) = some (3, mk S' I' L' R' n') := by
  unfold F_L_crossed; rw [cv_128 hs, e]; simp
theorem L_crossed_0 {S S' : mkS} {I I' : mkI} {L L' : mkL} {R R' : mkR} {n n' : Nat × Nat} {a1 : Int32} {a2 : Int32} (hs : St S R) (hs' : St S' R') {v : Int32} (e : F_X11_crossed (some 128) a1 a2 (mk S I L R n) = some (.inr v, mk S' I' L' R' n')) : F_L_crossed (some 128) a1 a2 (some 220) (mk S I L R n) = some (0, mk S' I' (up2 L' 220 0 v.toInt64) R' n') := by
  unfold F_L_crossed; rw [cv_128 hs, e]; dsimp only; rw [out_s hs', Option.bind_some]
theorem L_crossings_1 {S S' : mkS} {I I' : mkI} {L L' : mkL} {R R' : mkR} {n n' : Nat × Nat} {a1 : Int32} (hs : St S R) (e : F_X11_crossings (some 128) a1 (mk S I L R n) = some (.inl "java/util/NoSuchElementException", mk S' I' L' R' n')) : F_L_crossings (some 128) a1 (some 220) (mk S I L R n) = some (1, mk S' I' L' R' n') := by
  unfold F_L_crossings; rw [cv_128 hs, e]; simp
theorem L_crossings_2 {S S' : mkS} {I I' : mkI} {L L' : mkL} {R R' : mkR} {n n' : Nat × Nat} {a1 : Int32} (hs : St S R) (e : F_X11_crossings (some 128) a1 (mk S I L R n) = some (.inl "java/lang/IllegalStateException", mk S' I' L' R' n')) : F_L_crossings (some 128) a1 (some 220) (mk S I L R n) = some (2, mk S' I' L' R' n') := by
  unfold F_L_crossings; rw [cv_128 hs, e]; simp
theorem L_crossings_3 {S S' : mkS} {I I' : mkI} {L L' : mkL} {R R' : mkR} {n n' : Nat × Nat} {a1 : Int32} (hs : St S R) (e : F_X11_crossings (some 128) a1 (mk S I L R n) = some (.inl "java/lang/IllegalArgumentException", mk S' I' L' R' n')) : F_L_crossings (some 128) a1 (some 220) (mk S I L R n) = some (3, mk S' I' L' R' n') := by
  unfold F_L_crossings; rw [cv_128 hs, e]; simp
theorem L_crossings_0 {S S' : mkS} {I I' : mkI} {L L' : mkL} {R R' : mkR} {n n' : Nat × Nat} {a1 : Int32} (hs : St S R) (hs' : St S' R') {v : Int32} (e : F_X11_crossings (some 128) a1 (mk S I L R n) = some (.inr v, mk S' I' L' R' n')) : F_L_crossings (some 128) a1 (some 220) (mk S I L R n) = some (0, mk S' I' (up2 L' 220 0 v.toInt64) R' n') := by
  unfold F_L_crossings; rw [cv_128 hs, e]; dsimp only; rw [out_s hs', Option.bind_some]
theorem L_partner_1 {S S' : mkS} {I I' : mkI} {L L' : mkL} {R R' : mkR} {n n' : Nat × Nat} {a1 : Int32} (hs : St S R) (e : F_X11_partner (some 128) a1 (mk S I L R n) = some (.inl "java/util/NoSuchElementException", mk S' I' L' R' n')) : F_L_partner (some 128) a1 (some 220) (mk S I L R n) = some (1, mk S' I' L' R' n') := by
  unfold F_L_partner; rw [cv_128 hs, e]; simp
theorem L_partner_0 {S S' : mkS} {I I' : mkI} {L L' : mkL} {R R' : mkR} {n n' : Nat × Nat} {a1 : Int32} (hs : St S R) (hs' : St S' R') {v : Int32} (e : F_X11_partner (some 128) a1 (mk S I L R n) = some (.inr v, mk S' I' L' R' n')) : F_L_partner (some 128) a1 (some 220) (mk S I L R n) = some (0, mk S' I' (up2 L' 220 0 v.toInt64) R' n') := by
  unfold F_L_partner; rw [cv_128 hs, e]; dsimp only; rw [out_s hs', Option.bind_some]
theorem L_happiest_1 {S S' : mkS} {I I' : mkI} {L L' : mkL} {R R' : mkR} {n n' : Nat × Nat} {a1 : Int32} (hs : St S R) (e : F_X11_happiest (some 128) a1 (mk S I L R n) = some (.inl "java/lang/IllegalArgumentException", mk S' I' L' R' n')) : F_L_happiest (some 128) a1 (some 220) (mk S I L R n) = some (1, mk S' I' L' R' n') := by
  unfold F_L_happiest; rw [cv_128 hs, e]; simp
theorem L_happiest_0 {S S' : mkS} {I I' : mkI} {L L' : mkL} {R R' : mkR} {n n' : Nat × Nat} {a1 : Int32} (hs : St S R) (hs' : St S' R') {v : Int32} (e : F_X11_happiest (some 128) a1 (mk S I L R n) = some (.inr v, mk S' I' L' R' n')) : F_L_happiest (some 128) a1 (some 220) (mk S I L R n) = some (0, mk S' I' (up2 L' 220 0 v.toInt64) R' n') := by
  unfold F_L_happiest; rw [cv_128 hs, e]; dsimp only; rw [out_s hs', Option.bind_some]
theorem L_loss_1 {S S' : mkS} {I I' : mkI} {L L' : mkL} {R R' : mkR} {n n' : Nat × Nat} {a1 : Int32} {a2 : Int32} {a3 : Int32} {a4 : Int32} (hs : St S R) (e : F_X11_loss (some 128) a1 a2 a3 a4 (mk S I L R n) = some (.inl "java/lang/IllegalArgumentException", mk S' I' L' R' n')) : F_L_loss (some 128) a1 a2 a3 a4 (some 220) (mk S I L R n) = some (1, mk S' I' L' R' n') := by
  unfold F_L_loss; rw [cv_128 hs, e]; simp
theorem L_loss_0 {S S' : mkS} {I I' : mkI} {L L' : mkL} {R R' : mkR} {n n' : Nat × Nat} {a1 : Int32} {a2 : Int32} {a3 : Int32} {a4 : Int32} (hs : St S R) (hs' : St S' R') {v : Int64} (e : F_X11_loss (some 128) a1 a2 a3 a4 (mk S I L R n) = some (.inr v, mk S' I' L' R' n')) : F_L_loss (some 128) a1 a2 a3 a4 (some 220) (mk S I L R n) = some (0, mk S' I' (up2 L' 220 0 v) R' n') := by
  unfold F_L_loss; rw [cv_128 hs, e]; dsimp only; rw [out_s hs', Option.bind_some]
theorem L_fewest_1 {S S' : mkS} {I I' : mkI} {L L' : mkL} {R R' : mkR} {n n' : Nat × Nat} {a1 : Int32} {a2 : Int32} {a3 : Int32} (hs : St S R) (e : F_X11_fewest (some 128) a1 a2 a3 (mk S I L R n) = some (.inl "java/lang/IllegalArgumentException", mk S' I' L' R' n')) : F_L_fewest (some 128) a1 a2 a3 (some 220) (mk S I L R n) = some (1, mk S' I' L' R' n') := by
  unfold F_L_fewest; rw [cv_128 hs, e]; simp
theorem L_fewest_0 {S S' : mkS} {I I' : mkI} {L L' : mkL} {R R' : mkR} {n n' : Nat × Nat} {a1 : Int32} {a2 : Int32} {a3 : Int32} (hs : St S R) (hs' : St S' R') {v : Int32} (e : F_X11_fewest (some 128) a1 a2 a3 (mk S I L R n) = some (.inr v, mk S' I' L' R' n')) : F_L_fewest (some 128) a1 a2 a3 (some 220) (mk S I L R n) = some (0, mk S' I' (up2 L' 220 0 v.toInt64) R' n') := by
  unfold F_L_fewest; rw [cv_128 hs, e]; dsimp only; rw [out_s hs', Option.bind_some]
theorem L_rules_1 {S S' : mkS} {I I' : mkI} {L L' : mkL} {R R' : mkR} {n n' : Nat × Nat} {a1 : Int32} (hs : St S R) (e : F_X11_rules (some 128) a1 (mk S I L R n) = some (.inl "java/util/NoSuchElementException", mk S' I' L' R' n')) : F_L_rules (some 128) a1 (some 220) (mk S I L R n) = some (1, mk S' I' L' R' n') := by
  unfold F_L_rules; rw [cv_128 hs, e]; simp
theorem L_rules_2 {S S' : mkS} {I I' : mkI} {L L' : mkL} {R R' : mkR} {n n' : Nat × Nat} {a1 : Int32} (hs : St S R) (e : F_X11_rules (some 128) a1 (mk S I L R n) = some (.inl "java/lang/IllegalStateException", mk S' I' L' R' n')) : F_L_rules (some 128) a1 (some 220) (mk S I L R n) = some (2, mk S' I' L' R' n') := by
  unfold F_L_rules; rw [cv_128 hs, e]; simp
theorem L_rules_3 {S S' : mkS} {I I' : mkI} {L L' : mkL} {R R' : mkR} {n n' : Nat × Nat} {a1 : Int32} (hs : St S R) (e : F_X11_rules (some 128) a1 (mk S I L R n) = some (.inl "java/lang/IllegalArgumentException", mk S' I' L' R' n')) : F_L_rules (some 128) a1 (some 220) (mk S I L R n) = some (3, mk S' I' L' R' n') := by
  unfold F_L_rules; rw [cv_128 hs, e]; simp
theorem L_rules_0 {S S' : mkS} {I I' : mkI} {L L' : mkL} {R R' : mkR} {n n' : Nat × Nat} {a1 : Int32} (hs : St S R) (hs' : St S' R') {v : Int32} (e : F_X11_rules (some 128) a1 (mk S I L R n) = some (.inr v, mk S' I' L' R' n')) : F_L_rules (some 128) a1 (some 220) (mk S I L R n) = some (0, mk S' I' (up2 L' 220 0 v.toInt64) R' n') := by
  unfold F_L_rules; rw [cv_128 hs, e]; dsimp only; rw [out_s hs', Option.bind_some]
theorem L_rule_1 {S S' : mkS} {I I' : mkI} {L L' : mkL} {R R' : mkR} {n n' : Nat × Nat} {a1 : Int32} {a2 : Int32} (hs : St S R) (e : F_X11_rule (some 128) a1 a2 (mk S I L R n) = some (.inl "java/util/NoSuchElementException", mk S' I' L' R' n')) : F_L_rule (some 128) a1 a2 (some 220) (mk S I L R n) = some (1, mk S' I' L' R' n') := by
  unfold F_L_rule; rw [cv_128 hs, e]; simp
theorem L_rule_2 {S S' : mkS} {I I' : mkI} {L L' : mkL} {R R' : mkR} {n n' : Nat × Nat} {a1 : Int32} {a2 : Int32} (hs : St S R) (e : F_X11_rule (some 128) a1 a2 (mk S I L R n) = some (.inl "java/lang/IllegalStateException", mk S' I' L' R' n')) : F_L_rule (some 128) a1 a2 (some 220) (mk S I L R n) = some (2, mk S' I' L' R' n') := by
  unfold F_L_rule; rw [cv_128 hs, e]; simp
theorem L_rule_3 {S S' : mkS} {I I' : mkI} {L L' : mkL} {R R' : mkR} {n n' : Nat × Nat} {a1 : Int32} {a2 : Int32} (hs : St S R) (e : F_X11_rule (some 128) a1 a2 (mk S I L R n) = some (.inl "java/lang/IllegalArgumentException", mk S' I' L' R' n')) : F_L_rule (some 128) a1 a2 (some 220) (mk S I L R n) = some (3, mk S' I' L' R' n') := by
  unfold F_L_rule; rw [cv_128 hs, e]; simp
theorem L_rule_0 {S S' : mkS} {I I' : mkI} {L L' : mkL} {R R' : mkR} {n n' : Nat × Nat} {a1 : Int32} {a2 : Int32} (hs : St S R) (hs' : St S' R') {v : Int32} (e : F_X11_rule (some 128) a1 a2 (mk S I L R n) = some (.inr v, mk S' I' L' R' n')) : F_L_rule (some 128) a1 a2 (some 220) (mk S I L R n) = some (0, mk S' I' (up2 L' 220 0 v.toInt64) R' n') := by
  unfold F_L_rule; rw [cv_128 hs, e]; dsimp only; rw [out_s hs', Option.bind_some]
theorem L_ask_1 {S S' : mkS} {I I' : mkI} {L L' : mkL} {R R' : mkR} {n n' : Nat × Nat} {a1 : Int32} (hs : St S R) (e : F_X11_ask (some 128) a1 (mk S I L R n) = some (.inl "java/util/NoSuchElementException", mk S' I' L' R' n')) : F_L_ask (some 128) a1 (some 220) (mk S I L R n) = some (1, mk S' I' L' R' n') := by
  unfold F_L_ask; rw [cv_128 hs, e]; simp
theorem L_ask_2 {S S' : mkS} {I I' : mkI} {L L' : mkL} {R R' : mkR} {n n' : Nat × Nat} {a1 : Int32} (hs : St S R) (e : F_X11_ask (some 128) a1 (mk S I L R n) = some (.inl "java/lang/IllegalStateException", mk S' I' L' R' n')) : F_L_ask (some 128) a1 (some 220) (mk S I L R n) = some (2, mk S' I' L' R' n') := by
  unfold F_L_ask; rw [cv_128 hs, e]; simp
theorem L_ask_3 {S S' : mkS} {I I' : mkI} {L L' : mkL} {R R' : mkR} {n n' : Nat × Nat} {a1 : Int32} (hs : St S R) (e : F_X11_ask (some 128) a1 (mk S I L R n) = some (.inl "java/lang/IllegalArgumentException", mk S' I' L' R' n')) : F_L_ask (some 128) a1 (some 220) (mk S I L R n) = some (3, mk S' I' L' R' n') := by
  unfold F_L_ask; rw [cv_128 hs, e]; simp
theorem L_ask_0 {S S' : mkS} {I I' : mkI} {L L' : mkL} {R R' : mkR} {n n' : Nat × Nat} {a1 : Int32} (hs : St S R) (hs' : St S' R') {v : Int32} (e : F_X11_ask (some 128) a1 (mk S I L R n) = some (.inr v, mk S' I' L' R' n')) : F_L_ask (some 128) a1 (some 220) (mk S I L R n) = some (0, mk S' I' (up2 L' 220 0 v.toInt64) R' n') := by
  unfold F_L_ask; rw [cv_128 hs, e]; dsimp only; rw [out_s hs', Option.bind_some]
theorem L_tray_1 {S S' : mkS} {I I' : mkI} {L L' : mkL} {R R' : mkR} {n n' : Nat × Nat} {a1 : Int32} {a2 : Int32} {a3 : Int32} (hs : St S R) (e : F_X11_tray (some 128) a1 a2 a3 (mk S I L R n) = some (.inl "java/util/NoSuchElementException", mk S' I' L' R' n')) : F_L_tray (some 128) a1 a2 a3 (mk S I L R n) = some (1, mk S' I' L' R' n') := by
  unfold F_L_tray; rw [cv_128 hs, e]; simp
theorem L_tray_2 {S S' : mkS} {I I' : mkI} {L L' : mkL} {R R' : mkR} {n n' : Nat × Nat} {a1 : Int32} {a2 : Int32} {a3 : Int32} (hs : St S R) (e : F_X11_tray (some 128) a1 a2 a3 (mk S I L R n) = some (.inl "java/lang/IllegalArgumentException", mk S' I' L' R' n')) : F_L_tray (some 128) a1 a2 a3 (mk S I L R n) = some (2, mk S' I' L' R' n') := by
  unfold F_L_tray; rw [cv_128 hs, e]; simp
theorem L_tray_0 {S S' : mkS} {I I' : mkI} {L L' : mkL} {R R' : mkR} {n n' : Nat × Nat} {a1 : Int32} {a2 : Int32} {a3 : Int32} (hs : St S R) (e : F_X11_tray (some 128) a1 a2 a3 (mk S I L R n) = some (.inr (), mk S' I' L' R' n')) : F_L_tray (some 128) a1 a2 a3 (mk S I L R n) = some (0, mk S' I' L' R' n') := by
  unfold F_L_tray; rw [cv_128 hs, e]
theorem L_write_1 {S S' : mkS} {I I' : mkI} {L L' : mkL} {R R' : mkR} {n n' : Nat × Nat} {a1 : Int32} {a2 : Int32} {a3 : Int64} (hs : St S R) (e : F_X11_write (some 128) a1 a2 a3 (mk S I L R n) = some (.inl "java/util/NoSuchElementException", mk S' I' L' R' n')) : F_L_write (some 128) a1 a2 a3 (some 220) (mk S I L R n) = some (1, mk S' I' L' R' n') := by
  unfold F_L_write; rw [cv_128 hs, e]; simp
theorem L_write_2 {S S' : mkS} {I I' : mkI} {L L' : mkL} {R R' : mkR} {n n' : Nat × Nat} {a1 : Int32} {a2 : Int32} {a3 : Int64} (hs : St S R) (e : F_X11_write (some 128) a1 a2 a3 (mk S I L R n) = some (.inl "java/lang/IllegalStateException", mk S' I' L' R' n')) : F_L_write (some 128) a1 a2 a3 (some 220) (mk S I L R n) = some (2, mk S' I' L' R' n') := by
  unfold F_L_write; rw [cv_128 hs, e]; simp
theorem L_write_3 {S S' : mkS} {I I' : mkI} {L L' : mkL} {R R' : mkR} {n n' : Nat × Nat} {a1 : Int32} {a2 : Int32} {a3 : Int64} (hs : St S R) (e : F_X11_write (some 128) a1 a2 a3 (mk S I L R n) = some (.inl "java/lang/IndexOutOfBoundsException", mk S' I' L' R' n')) : F_L_write (some 128) a1 a2 a3 (some 220) (mk S I L R n) = some (3, mk S' I' L' R' n') := by
  unfold F_L_write; rw [cv_128 hs, e]; simp
theorem L_write_0 {S S' : mkS} {I I' : mkI} {L L' : mkL} {R R' : mkR} {n n' : Nat × Nat} {a1 : Int32} {a2 : Int32} {a3 : Int64} (hs : St S R) (hs' : St S' R') {v : Int64} (e : F_X11_write (some 128) a1 a2 a3 (mk S I L R n) = some (.inr v, mk S' I' L' R' n')) : F_L_write (some 128) a1 a2 a3 (some 220) (mk S I L R n) = some (0, mk S' I' (up2 L' 220 0 v) R' n') := by
  unfold F_L_write; rw [cv_128 hs, e]; dsimp only; rw [out_s hs', Option.bind_some]
theorem L_copy_1 {S S' : mkS} {I I' : mkI} {L L' : mkL} {R R' : mkR} {n n' : Nat × Nat} {a1 : Int32} (hs : St S R) (e : F_X11_copy (some 128) a1 (mk S I L R n) = some (.inl "java/util/NoSuchElementException", mk S' I' L' R' n')) : F_L_copy (some 128) a1 (some 220) (mk S I L R n) = some (1, mk S' I' L' R' n') := by
  unfold F_L_copy; rw [cv_128 hs, e]; simp
theorem L_copy_2 {S S' : mkS} {I I' : mkI} {L L' : mkL} {R R' : mkR} {n n' : Nat × Nat} {a1 : Int32} (hs : St S R) (e : F_X11_copy (some 128) a1 (mk S I L R n) = some (.inl "java/lang/IllegalStateException", mk S' I' L' R' n')) : F_L_copy (some 128) a1 (some 220) (mk S I L R n) = some (2, mk S' I' L' R' n') := by
  unfold F_L_copy; rw [cv_128 hs, e]; simp
theorem L_copy_0 {S S' : mkS} {I I' : mkI} {L L' : mkL} {R R' : mkR} {n n' : Nat × Nat} {a1 : Int32} (hs : St S R) (hs' : St S' R') {v : Int32} (e : F_X11_copy (some 128) a1 (mk S I L R n) = some (.inr v, mk S' I' L' R' n')) : F_L_copy (some 128) a1 (some 220) (mk S I L R n) = some (0, mk S' I' (up2 L' 220 0 v.toInt64) R' n') := by
  unfold F_L_copy; rw [cv_128 hs, e]; dsimp only; rw [out_s hs', Option.bind_some]
theorem L_image_1 {S S' : mkS} {I I' : mkI} {L L' : mkL} {R R' : mkR} {n n' : Nat × Nat} {a1 : Int32} (hs : St S R) (e : F_X11_image (some 128) a1 (mk S I L R n) = some (.inl "java/util/NoSuchElementException", mk S' I' L' R' n')) : F_L_image (some 128) a1 (mk S I L R n) = some (1, mk S' I' L' R' n') := by
  unfold F_L_image; rw [cv_128 hs, e]; simp
theorem L_image_0 {S S' : mkS} {I I' : mkI} {L L' : mkL} {R R' : mkR} {n n' : Nat × Nat} {a1 : Int32} (hs : St S R) (e : F_X11_image (some 128) a1 (mk S I L R n) = some (.inr (), mk S' I' L' R' n')) : F_L_image (some 128) a1 (mk S I L R n) = some (0, mk S' I' L' R' n') := by
  unfold F_L_image; rw [cv_128 hs, e]
theorem L_restore_1 {S S' : mkS} {I I' : mkI} {L L' : mkL} {R R' : mkR} {n n' : Nat × Nat} {a1 : Int32} (hs : St S R) (e : F_X11_restore (some 128) a1 (mk S I L R n) = some (.inl "java/util/NoSuchElementException", mk S' I' L' R' n')) : F_L_restore (some 128) a1 (mk S I L R n) = some (1, mk S' I' L' R' n') := by
  unfold F_L_restore; rw [cv_128 hs, e]; simp
theorem L_restore_2 {S S' : mkS} {I I' : mkI} {L L' : mkL} {R R' : mkR} {n n' : Nat × Nat} {a1 : Int32} (hs : St S R) (e : F_X11_restore (some 128) a1 (mk S I L R n) = some (.inl "java/lang/IllegalStateException", mk S' I' L' R' n')) : F_L_restore (some 128) a1 (mk S I L R n) = some (2, mk S' I' L' R' n') := by
  unfold F_L_restore; rw [cv_128 hs, e]; simp
theorem L_restore_0 {S S' : mkS} {I I' : mkI} {L L' : mkL} {R R' : mkR} {n n' : Nat × Nat} {a1 : Int32} (hs : St S R) (e : F_X11_restore (some 128) a1 (mk S I L R n) = some (.inr (), mk S' I' L' R' n')) : F_L_restore (some 128) a1 (mk S I L R n) = some (0, mk S' I' L' R' n') := by
  unfold F_L_restore; rw [cv_128 hs, e]
