theorem pr1 {α β : Type} {a : α} {b : β} {q : α × β} (h : (a, b) = q) : a = q.1 := by rw [← h]
theorem pr2 {α β : Type} {a : α} {b : β} {q : α × β} (h : (a, b) = q) : b = q.2 := by rw [← h]
