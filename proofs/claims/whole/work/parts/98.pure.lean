theorem main_pure : Pure := sorry
